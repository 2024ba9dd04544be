/-! products of X - e(i), all but one; sums of partial fractions -/
noncomputable def pr {F R : Type} [mRng F] [mRng R] {co : R → Nat → F} (h : isPol co) (e : Nat → F) : Nat → R
  | 0 => 1
  | K + 1 => pr h e K * (pX h - pC h (e K))
noncomputable def pri {F R : Type} [mRng F] [mRng R] {co : R → Nat → F} (h : isPol co) (e : Nat → F) (i : Nat) : Nat → R
  | 0 => 1
  | K + 1 => if i = K then pr h e K else pri h e i K * (pX h - pC h (e K))
theorem pri_pr {F R : Type} [mRng F] [mRng R] {co : R → Nat → F} (h : isPol co) (e : Nat → F) (i : Nat) : ∀ {K : Nat}, i < K → pr h e K = pri h e i K * (pX h - pC h (e i))
  | 0, hi => absurd hi (Nat.not_lt_zero _)
  | K + 1, hi => by
    show pr h e K * (pX h - pC h (e K)) = (if i = K then pr h e K else pri h e i K * (pX h - pC h (e K))) * (pX h - pC h (e i))
    by_cases k : i = K
    · rw [if_pos k, k]
    · rw [if_neg k, pri_pr h e i (K := K) (by omega)]; grind
theorem pr_sz {F R : Type} [mFld F] [mRng R] {co : R → Nat → F} (h : isPol co) (e : Nat → F) : ∀ K : Nat, sz h (pr h e K) = K + 1 ∧ co (pr h e K) K = 1
  | 0 => ⟨by show sz h (1 : R) = 1; rw [← pC_one h, sz_C h (fun z => Lean.Grind.Field.zero_ne_one z.symm)], by show co (1 : R) 0 = 1; rw [po_one h]; rfl⟩
  | K + 1 => by
    obtain ⟨h1, h2⟩ := pr_sz h e K
    have h3 := sz_XC h (e K)
    refine ⟨sz_mul h h1 h3, ?_⟩
    show co (pr h e K * (pX h - pC h (e K))) (K + 1) = 1
    rw [(sz_mle h (Nat.le_of_eq h1) (Nat.le_of_eq h3)).2, h2, po_sub h, co_X h, co_C h, if_pos rfl, if_neg (by omega)]; grind
theorem pr_ne {F R : Type} [mFld F] [mRng R] {co : R → Nat → F} (h : isPol co) (e : Nat → F) (K : Nat) : pr h e K ≠ 0 := fun z => by have := (pr_sz h e K).1; rw [z, sz_zero] at this; omega
theorem pri_sz {F R : Type} [mFld F] [mRng R] {co : R → Nat → F} (h : isPol co) (e : Nat → F) {i K : Nat} (hi : i < K) : sz h (pri h e i K) = K ∧ co (pri h e i K) (K - 1) = 1 := by
  have e1 := pri_pr h e i hi
  obtain ⟨h1, h2⟩ := pr_sz h e K
  have p0 : pri h e i K ≠ 0 := fun z => pr_ne h e K (by rw [e1, z]; grind)
  obtain ⟨d, hd⟩ := sz_pos h p0
  have h3 := sz_mul h hd (sz_XC h (e i))
  rw [← e1, h1] at h3
  have dk : d + 1 = K := by omega
  refine ⟨by omega, ?_⟩
  have h4 := (sz_mle h (Nat.le_of_eq hd) (Nat.le_of_eq (sz_XC h (e i)))).2
  rw [← e1, dk, h2, po_sub h, co_X h, co_C h, if_pos rfl, if_neg (by omega)] at h4
  rw [show K - 1 = d by omega]; grind
theorem pr_0 {F R : Type} [mRng F] [mRng R] {co : R → Nat → F} (h : isPol co) (e : Nat → F) {i K : Nat} (hi : i < K) : ev h (fun x => x) (e i) (pr h e K) = 0 := by
  rw [pri_pr h e i hi, hm_mul (ev_hom h hm_id _), ev_XC]; grind
theorem pri_0 {F R : Type} [mRng F] [mRng R] {co : R → Nat → F} (h : isPol co) (e : Nat → F) {i j : Nat} : ∀ {K : Nat}, i < K → j < K → i ≠ j → ev h (fun x => x) (e i) (pri h e j K) = 0
  | 0, hi, _, _ => absurd hi (Nat.not_lt_zero _)
  | K + 1, hi, hj, hn => by
    show ev h (fun x => x) (e i) (if j = K then pr h e K else pri h e j K * (pX h - pC h (e K))) = 0
    by_cases k : j = K
    · rw [if_pos k]; exact pr_0 h e (by omega)
    · rw [if_neg k, hm_mul (ev_hom h hm_id _), ev_XC]
      by_cases l : i = K
      · rw [l]; grind
      · rw [pri_0 h e (K := K) (by omega) (by omega) hn]; grind
theorem pr_n {F R : Type} [mFld F] [mRng R] {co : R → Nat → F} (h : isPol co) {e : Nat → F} {d : F} : ∀ {K : Nat}, (∀ j, j < K → d ≠ e j) → ev h (fun x => x) d (pr h e K) ≠ 0
  | 0, _ => by show ev h (fun x => x) d 1 ≠ 0; rw [hm_one (ev_hom h hm_id _)]; exact fun z => Lean.Grind.Field.zero_ne_one z.symm
  | K + 1, k => by
    show ev h (fun x => x) d (pr h e K * (pX h - pC h (e K))) ≠ 0
    rw [hm_mul (ev_hom h hm_id _), ev_XC]
    intro z
    rcases Lean.Grind.Field.of_mul_eq_zero z with w | w
    · exact pr_n h (fun j hj => k j (by omega)) w
    · exact k K (by omega) (by grind)
theorem pri_n {F R : Type} [mFld F] [mRng R] {co : R → Nat → F} (h : isPol co) {e : Nat → F} {i K : Nat} (hd : ∀ a b, a < K → b < K → e a = e b → a = b) (hi : i < K) : ev h (fun x => x) (e i) (pri h e i K) ≠ 0 := by
  have key : ∀ K, i < K → (∀ j, j < K → j ≠ i → e i ≠ e j) → ev h (fun x => x) (e i) (pri h e i K) ≠ 0 := by
    intro K
    induction K with
    | zero => exact fun hi => absurd hi (Nat.not_lt_zero _)
    | succ K ih =>
      intro hi hn
      show ev h (fun x => x) (e i) (if i = K then pr h e K else pri h e i K * (pX h - pC h (e K))) ≠ 0
      by_cases k : i = K
      · rw [if_pos k]; exact pr_n h (fun j hj => hn j (by omega) (by omega))
      · rw [if_neg k, hm_mul (ev_hom h hm_id _), ev_XC]
        intro z
        rcases Lean.Grind.Field.of_mul_eq_zero z with w | w
        · exact ih (by omega) (fun j hj => hn j (by omega)) w
        · exact hn K (by omega) (fun q => k q.symm) (by grind)
  exact key K hi (fun j hj hn z => hn (hd j i hj hi z.symm))
/-- the words of Velu: X = U / p^2, its derivative Z / p^3 -/
noncomputable def vU {F R : Type} [mRng F] [mRng R] {co : R → Nat → F} (h : isPol co) (e G V : Nat → F) (K : Nat) : R := pX h * (pr h e K * pr h e K) + rs K (fun i => pC h (G i) * (pr h e K * pri h e i K) + pC h (V i) * (pri h e i K * pri h e i K))
noncomputable def vZ {F R : Type} [mRng F] [mRng R] {co : R → Nat → F} (h : isPol co) (e G V : Nat → F) (K : Nat) : R := pr h e K * pr h e K * pr h e K - rs K (fun i => pC h (G i) * (pr h e K * (pri h e i K * pri h e i K)) + pC h (V i + V i) * (pri h e i K * pri h e i K * pri h e i K))
noncomputable def vT1 {F : Type} [mRng F] (G : Nat → F) (K : Nat) : F := rs K G
noncomputable def vT2 {F : Type} [mRng F] (e G V : Nat → F) (K : Nat) : F := rs K (fun i => G i * e i + V i)
noncomputable def vC {F R : Type} [mRng F] [mRng R] {co : R → Nat → F} (h : isPol co) (a b a' b' : F) (e G V : Nat → F) (K : Nat) : R :=
  fC h a b * (vZ h e G V K * vZ h e G V K) - vU h e G V K * vU h e G V K * vU h e G V K - pC h a' * vU h e G V K * (pr h e K * pr h e K) * (pr h e K * pr h e K) - pC h b' * (pr h e K * pr h e K) * (pr h e K * pr h e K) * (pr h e K * pr h e K)
theorem rl_v1 {R : Type} [mRng R] {X c g v p q : R} (e : p = q * (X - c)) : (g * (p * q) + v * (q * q)) * (X * X) = (p * p) * (g * X + (g * c + v)) + (g * (c * c) * (p * q) + v * ((c + c) * X - c * c) * (q * q)) := by rw [e]; grind
theorem rl_v2 {R : Type} [mRng R] {X c g v p q : R} (e : p = q * (X - c)) : (g * (p * (q * q)) + (v + v) * (q * q * q)) * (X * X * X) = (p * p * p) * (g * X + ((g * c + v) + (g * c + v))) + (g * ((c * c + c * c + c * c) * X - (c * c * c + c * c * c)) * (p * (q * q)) + (v + v) * ((c + c + c) * (X * X) - (c * c + c * c + c * c) * X + c * c * c) * (q * q * q)) := by rw [e]; grind
theorem pC_rs {F R : Type} [mRng F] [mRng R] {co : R → Nat → F} (h : isPol co) (f : Nat → F) (n : Nat) : pC h (rs n f) = rs n (fun i => pC h (f i)) := hm_rs (pC_hom h) f n
/-- sizes: at most n -/
theorem sm_C {F R : Type} [mFld F] [mRng R] {co : R → Nat → F} (h : isPol co) (c : F) {w : R} {n : Nat} (hw : sz h w ≤ n) : sz h (pC h c * w) ≤ n := by
  cases n with
  | zero => rw [sz_0 h (Nat.le_zero.mp hw), show pC h c * 0 = (0 : R) by grind, sz_zero]; omega
  | succ n => have := (sz_mle h (sz_Cle h c) hw).1; omega
theorem sm_mul {F R : Type} [mFld F] [mRng R] {co : R → Nat → F} (h : isPol co) {w w' : R} {n m : Nat} (hw : sz h w ≤ n + 1) (hw' : sz h w' ≤ m) : sz h (w * w') ≤ n + m := by
  cases m with
  | zero => rw [sz_0 h (Nat.le_zero.mp hw'), show w * 0 = (0 : R) by grind, sz_zero]; omega
  | succ m => have := (sz_mle h hw hw').1; omega
theorem vU_exp {F R : Type} [mFld F] [mRng R] {co : R → Nat → F} (h : isPol co) (e G V : Nat → F) (K : Nat) : ∃ E : R, sz h E ≤ 2 * K ∧ vU h e G V K * (pX h * pX h) = (pr h e K * pr h e K) * (pX h * pX h * pX h + pC h (vT1 G K) * pX h + pC h (vT2 e G V K)) + E := by
  refine ⟨rs K (fun i => pC h (G i) * (pC h (e i) * pC h (e i)) * (pr h e K * pri h e i K) + pC h (V i) * ((pC h (e i) + pC h (e i)) * pX h - pC h (e i) * pC h (e i)) * (pri h e i K * pri h e i K)), ?_, ?_⟩
  · refine sz_rs h (fun i hi => ?_)
    obtain ⟨s1, -⟩ := pri_sz h e hi
    have s2 := (pr_sz h e K).1
    refine sz_add h ?_ ?_
    · rw [← pC_mul, ← pC_mul]
      refine sm_C h _ ?_
      have := sm_mul h (n := K) (m := K) (Nat.le_of_eq s2) (Nat.le_of_eq s1); omega
    · rw [show pC h (V i) * ((pC h (e i) + pC h (e i)) * pX h - pC h (e i) * pC h (e i)) * (pri h e i K * pri h e i K) = pC h (V i) * (((pC h (e i) + pC h (e i)) * pX h - pC h (e i) * pC h (e i)) * (pri h e i K * pri h e i K)) by grind]
      refine sm_C h _ ?_
      have t1 : sz h ((pC h (e i) + pC h (e i)) * pX h - pC h (e i) * pC h (e i)) ≤ 1 + 1 := by
        rw [← pC_add, ← pC_mul]
        exact sz_sub h (sm_C h _ (Nat.le_of_eq (sz_X h))) (Nat.le_succ_of_le (sz_Cle h _))
      obtain ⟨k, hk⟩ : ∃ k, K = k + 1 := ⟨K - 1, by omega⟩
      have t2 := sm_mul h (w := pri h e i K) (w' := pri h e i K) (n := k) (m := K) (by omega) (Nat.le_of_eq s1)
      have := sm_mul h t1 t2; omega
  · unfold vU vT1 vT2
    rw [show (pX h * (pr h e K * pr h e K) + rs K (fun i => pC h (G i) * (pr h e K * pri h e i K) + pC h (V i) * (pri h e i K * pri h e i K))) * (pX h * pX h) = pX h * (pr h e K * pr h e K) * (pX h * pX h) + rs K (fun i => pC h (G i) * (pr h e K * pri h e i K) + pC h (V i) * (pri h e i K * pri h e i K)) * (pX h * pX h) by grind]
    rw [← rs_mulr, pC_rs, pC_rs]
    have e1 : rs K (fun i => (pC h (G i) * (pr h e K * pri h e i K) + pC h (V i) * (pri h e i K * pri h e i K)) * (pX h * pX h)) = (pr h e K * pr h e K) * (rs K (fun i => pC h (G i)) * pX h + rs K (fun i => pC h (G i * e i + V i))) + rs K (fun i => pC h (G i) * (pC h (e i) * pC h (e i)) * (pr h e K * pri h e i K) + pC h (V i) * ((pC h (e i) + pC h (e i)) * pX h - pC h (e i) * pC h (e i)) * (pri h e i K * pri h e i K)) := by
      rw [← rs_mulr, ← rs_add, ← rs_mul, ← rs_add]
      refine rs_ext (fun i hi => ?_)
      rw [rl_v1 (pri_pr h e i hi), pC_add, pC_mul]
    rw [e1]
    generalize rs K (fun i => pC h (G i)) = T1
    generalize rs K (fun i => pC h (G i * e i + V i)) = T2
    grind
theorem vZ_exp {F R : Type} [mFld F] [mRng R] {co : R → Nat → F} (h : isPol co) (e G V : Nat → F) (K : Nat) : ∃ E : R, sz h E ≤ 3 * K ∧ vZ h e G V K * (pX h * pX h * pX h) = (pr h e K * pr h e K * pr h e K) * (pX h * pX h * pX h - pC h (vT1 G K) * pX h - (pC h (vT2 e G V K) + pC h (vT2 e G V K))) + E := by
  refine ⟨- rs K (fun i => pC h (G i) * ((pC h (e i) * pC h (e i) + pC h (e i) * pC h (e i) + pC h (e i) * pC h (e i)) * pX h - (pC h (e i) * pC h (e i) * pC h (e i) + pC h (e i) * pC h (e i) * pC h (e i))) * (pr h e K * (pri h e i K * pri h e i K)) + (pC h (V i) + pC h (V i)) * ((pC h (e i) + pC h (e i) + pC h (e i)) * (pX h * pX h) - (pC h (e i) * pC h (e i) + pC h (e i) * pC h (e i) + pC h (e i) * pC h (e i)) * pX h + pC h (e i) * pC h (e i) * pC h (e i)) * (pri h e i K * pri h e i K * pri h e i K)), ?_, ?_⟩
  · rw [sz_neg]
    refine sz_rs h (fun i hi => ?_)
    obtain ⟨s1, -⟩ := pri_sz h e hi
    have s2 := (pr_sz h e K).1
    obtain ⟨k, hk⟩ : ∃ k, K = k + 1 := ⟨K - 1, by omega⟩
    have sX := sz_X h
    have sXX : sz h (pX h * pX h) = 3 := sz_mul h sX sX
    have t2 := sm_mul h (w := pri h e i K) (w' := pri h e i K) (n := k) (m := K) (by omega) (Nat.le_of_eq s1)
    simp only [← pC_mul, ← pC_add]
    refine sz_add h ?_ ?_
    · rw [show ∀ x y z : R, x * y * z = x * (y * z) by intro x y z; grind]
      refine sm_C h _ ?_
      have t1 : sz h (pC h (e i * e i + e i * e i + e i * e i) * pX h - pC h (e i * e i * e i + e i * e i * e i)) ≤ 1 + 1 := sz_sub h (sm_C h _ (by omega)) (Nat.le_succ_of_le (sz_Cle h _))
      have t3 := sm_mul h (w := pr h e K) (n := K) (by omega) t2
      have := sm_mul h t1 (show sz h (pr h e K * (pri h e i K * pri h e i K)) ≤ K + (k + K) from t3); omega
    · rw [show ∀ x y z : R, x * y * z = x * (y * z) by intro x y z; grind]
      refine sm_C h _ ?_
      have t1 : sz h (pC h (e i + e i + e i) * (pX h * pX h) - pC h (e i * e i + e i * e i + e i * e i) * pX h + pC h (e i * e i * e i)) ≤ 2 + 1 := sz_add h (sz_sub h (sm_C h _ (by omega)) (sm_C h _ (by omega))) (Nat.le_trans (sz_Cle h _) (by omega))
      have t3 := sm_mul h (w := pri h e i K * pri h e i K) (w' := pri h e i K) (n := k + k) (m := K) (by omega) (Nat.le_of_eq s1)
      have := sm_mul h t1 t3
      omega
  · unfold vZ vT1 vT2
    rw [show (pr h e K * pr h e K * pr h e K - rs K (fun i => pC h (G i) * (pr h e K * (pri h e i K * pri h e i K)) + pC h (V i + V i) * (pri h e i K * pri h e i K * pri h e i K))) * (pX h * pX h * pX h) = pr h e K * pr h e K * pr h e K * (pX h * pX h * pX h) - rs K (fun i => pC h (G i) * (pr h e K * (pri h e i K * pri h e i K)) + pC h (V i + V i) * (pri h e i K * pri h e i K * pri h e i K)) * (pX h * pX h * pX h) by grind]
    rw [← rs_mulr, pC_rs, pC_rs]
    have e1 : rs K (fun i => (pC h (G i) * (pr h e K * (pri h e i K * pri h e i K)) + pC h (V i + V i) * (pri h e i K * pri h e i K * pri h e i K)) * (pX h * pX h * pX h)) = (pr h e K * pr h e K * pr h e K) * (rs K (fun i => pC h (G i)) * pX h + (rs K (fun i => pC h (G i * e i + V i)) + rs K (fun i => pC h (G i * e i + V i)))) + rs K (fun i => pC h (G i) * ((pC h (e i) * pC h (e i) + pC h (e i) * pC h (e i) + pC h (e i) * pC h (e i)) * pX h - (pC h (e i) * pC h (e i) * pC h (e i) + pC h (e i) * pC h (e i) * pC h (e i))) * (pr h e K * (pri h e i K * pri h e i K)) + (pC h (V i) + pC h (V i)) * ((pC h (e i) + pC h (e i) + pC h (e i)) * (pX h * pX h) - (pC h (e i) * pC h (e i) + pC h (e i) * pC h (e i) + pC h (e i) * pC h (e i)) * pX h + pC h (e i) * pC h (e i) * pC h (e i)) * (pri h e i K * pri h e i K * pri h e i K)) := by
      rw [← rs_mulr, ← rs_add, ← rs_add, ← rs_mul, ← rs_add]
      refine rs_ext (fun i hi => ?_)
      rw [pC_add h (V i) (V i), rl_v2 (pri_pr h e i hi), pC_add, pC_mul]
    rw [e1]
    generalize rs K (fun i => pC h (G i)) = T1
    generalize rs K (fun i => pC h (G i * e i + V i)) = T2
    grind
