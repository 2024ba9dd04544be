theorem rgt_cub (P A B x : Nat) : (x * x % P * x % P + A * x % P + B) % P = cub P A B x := by
  unfold cub
  rw [Nat.mod_mul_mod, Nat.add_assoc, Nat.mod_add_mod, Nat.add_left_comm, Nat.mod_add_mod]
  rw [← Nat.mod_add_mod ((x * x + A) % P * x), Nat.mod_mul_mod, Nat.mod_add_mod, Nat.add_mul]
  congr 1
  omega
theorem rightM (N P A B x : Nat) (h1 : 1 ≤ P) (hP : P ≤ 10007) (hA : A < P) (hB : B < P) (hx : x < P) : mX6_right N (nI P) (nI A) (nI B) (nI x) = some (nI (cub P A B x)) := by
  have hp0 : 0 < P := h1
  have hm1 : x * x % P < P := Nat.mod_lt _ hp0
  have hm3 : x * x % P * x % P < P := Nat.mod_lt _ hp0
  have hm4 : A * x % P < P := Nat.mod_lt _ hp0
  have k1 := sq_lt hx hP
  have k2 := mul_lt hm1 hx hP
  have k3 := mul_lt hA hx hP
  unfold mX6_right
  rw [mulM N P x x h1 hP (by omega) (by omega) (by omega)]
  show (mX6_mul N (nI P) (nI (x * x % P)) (nI x)).bind _ = _
  rw [mulM N P (x * x % P) x h1 hP (by omega) (by omega) (by omega)]
  show (mX6_mul N (nI P) (nI A) (nI x)).bind _ = _
  rw [mulM N P A x h1 hP (by omega) (by omega) (by omega)]
  show (mX6_mod N (nI P) (((nI (x * x % P * x % P)).toInt64 + (nI (A * x % P)).toInt64) + (nI B).toInt64)).bind _ = _
  rw [nI_l (by omega), nI_l (by omega), nI_l (by omega), lN_add, lN_add, modM N P _ h1 hP (by omega), rgt_cub]
  rfl
theorem root_wt2 {P : Nat} {g : Nat → Int32} (h : rootTab P g) (h1 : 1 ≤ P) (hP : P ≤ 10007) {v : Nat} (hv : v < P) : (g v = -1 ∧ wt P v = 0) ∨ (¬ g v = -1 ∧ g v = 0 ∧ wt P v = 1) ∨ (¬ g v = -1 ∧ ¬ g v = 0 ∧ wt P v = 2) := by
  have hne : ∀ r, r < P → ¬ nI r = -1 := fun r hr e => by
    have h2 : nI r < 0 := by
      rw [e]
      decide
    exact nI_pos (by omega) h2
  rcases h v hv with ⟨q1, q2⟩ | ⟨r, q1, q2, q3, q4⟩
  · left
    refine ⟨q1, ?_⟩
    unfold wt
    rw [if_neg, if_neg]
    · intro q
      obtain ⟨r, k1, k2⟩ := sqb_iff.mp q
      exact q2 r k1 k2
    · intro e
      subst e
      exact q2 0 h1 (Nat.zero_mod _)
  · right
    by_cases e : v = 0
    · left
      subst e
      have hr : r = 0 := by
        rcases Nat.eq_zero_or_pos r with k | k
        · exact k
        · exact absurd (Nat.zero_mod P) (q4 0 k)
      subst hr
      refine ⟨?_, q1, rfl⟩
      rw [q1]
      exact hne 0 h1
    · right
      refine ⟨?_, ?_, ?_⟩
      · rw [q1]
        exact hne r q2
      · rw [q1]
        refine nI_ne0 ?_ (by omega)
        rcases Nat.eq_zero_or_pos r with k | k
        · exfalso
          rw [k, Nat.zero_mul, Nat.zero_mod] at q3
          exact e q3.symm
        · exact k
      · unfold wt
        rw [if_neg e, if_pos (sqb_iff.mpr ⟨r, q2, q3⟩)]
theorem here_spec (N : Nat) (hN : 20000 ≤ N) (P A B : Nat) (h1 : 1 ≤ P) (hP : P ≤ 10007) (hA : A < P) (hB : B < P) (g : Nat → Int32) (hg : rootTab P g) : ∃ o, mi_run (mX6_all_b95 N (nI P) (nI P) (nI A) (nI B) g) N (1, 0) = some o ∧ o.1 = nI (cnt P A B P) := by
  refine mi_run_ok (mX6_all_b95 N (nI P) (nI P) (nI A) (nI B) g) (fun s => ∃ k, s.2 = nI k ∧ k ≤ P ∧ s.1 = nI (cnt P A B k)) (fun o => o.1 = nI (cnt P A B P)) (fun s => 15000 - s.2.toNatClampNeg) ?_ N (1, 0) ⟨0, rfl, by omega, rfl⟩ ?_
  · intro ⟨x, y⟩ ⟨k, ey, hk, ex⟩
    dsimp only at ey ex
    subst ey
    subst ex
    dsimp only [mX6_all_b95, mi_let]
    rcases Nat.lt_or_ge k P with hlt | hge
    · left
      have hc : cub P A B k < P := Nat.mod_lt _ h1
      refine ⟨(nI (cnt P A B (k + 1)), nI (k + 1)), ?_, ⟨k + 1, rfl, by omega, rfl⟩, ?_⟩
      · rw [if_neg (nI_ge hlt (by omega)), rightM N P A B k h1 hP hA hB hlt]
        dsimp only [Option.bind]
        rw [if_neg (ix_nI (by omega) (by omega)), nI_clamp (by omega), show cnt P A B (k + 1) = cnt P A B k + wt P (cub P A B k) from rfl]
        rcases root_wt2 hg h1 hP hc with ⟨q1, q2⟩ | ⟨q0, q1, q2⟩ | ⟨q0, q1, q2⟩
        · rw [if_pos q1, q2, nI_1, Int32.add_zero]
          rfl
        · rw [if_neg q0, if_pos q1, q2, nI_1, nI_1]
        · rw [if_neg q0, if_neg q1, q2, nI_1, show nI (cnt P A B k) + 2 = nI (cnt P A B k + 2) from nI_add _ 2]
      · show 15000 - (nI (k + 1)).toNatClampNeg < 15000 - (nI k).toNatClampNeg
        rw [nI_clamp (by omega), nI_clamp (by omega)]
        omega
    · right
      have e : k = P := by omega
      subst e
      rw [if_pos (nI_le (Nat.le_refl _) (by omega))]
      exact ⟨_, rfl, rfl⟩
  · show 15000 - (nI 0).toNatClampNeg < N
    rw [nI_clamp (by omega)]
    omega
def jN (P A B : Nat) : Nat := 1728 % P * (4 * (A * A % P * A % P) % P) % P * invf P P (disc P A B) % P
theorem jOfM (N P A B : Nat) (h1 : 1 ≤ P) (hP : P ≤ 10007) (hA : A < P) (hB : B < P) (f : Nat → Int32) (hf : invTab P f P) : mX6_jOf N (nI P) (nI A) (nI B) f = some (nI (jN P A B)) := by
  have hp0 : 0 < P := h1
  have hm1 : A * A % P < P := Nat.mod_lt _ hp0
  have hm3 : A * A % P * A % P < P := Nat.mod_lt _ hp0
  have hm4 : 4 * (A * A % P * A % P) % P < P := Nat.mod_lt _ hp0
  have hm5 : 1728 % P < P := Nat.mod_lt _ hp0
  have hm6 : 1728 % P * (4 * (A * A % P * A % P) % P) % P < P := Nat.mod_lt _ hp0
  have hd : disc P A B < P := Nat.mod_lt _ hp0
  have hi := hf (disc P A B) hd P (by omega)
  have k1 := sq_lt hA hP
  have k2 := mul_lt hm1 hA hP
  have k4 := mul_lt hm5 hm4 hP
  have k5 := mul_lt hm6 hi.2 hP
  unfold mX6_jOf
  rw [mulM N P A A h1 hP (by omega) (by omega) (by omega)]
  show (mX6_mul N (nI P) (nI (A * A % P)) (nI A)).bind _ = _
  rw [mulM N P (A * A % P) A h1 hP (by omega) (by omega) (by omega)]
  show (mX6_mul N (nI P) (nI 4) (nI (A * A % P * A % P))).bind _ = _
  rw [mulM N P 4 (A * A % P * A % P) h1 hP (by omega) (by omega) (by omega)]
  show (mX6_mod N (nI P) (lN 1728)).bind _ = _
  rw [modM N P 1728 h1 hP (by omega)]
  show (mX6_mul N (nI P) (nI (1728 % P)) (nI (4 * (A * A % P * A % P) % P))).bind _ = _
  rw [mulM N P (1728 % P) (4 * (A * A % P * A % P) % P) h1 hP (by omega) (by omega) (by omega)]
  show (mX6_split N (nI P) (nI A) (nI B)).bind _ = _
  rw [splitM N P A B h1 hP hA hB]
  dsimp only [Option.bind, mi_let]
  rw [if_neg (ix_nI (by omega) (by omega)), nI_clamp (by omega), hi.1, mulM N P _ _ h1 hP (by omega) (by omega) (by omega)]
  rfl
/-- one pair a, b of the reference's walk -/
def stp (P : Nat) (n : Int32) (J : Bool) (a b : Nat) (s : Nat × (Nat → Int32)) : Nat × (Nat → Int32) :=
  if disc P a b = 0 then s else if nI (cnt P a b P) = n then (s.1 + (if J = true ∧ ¬ s.2 (jN P a b) = 0 then 0 else 1), upd s.2 (jN P a b) 1) else s
def rowF (P : Nat) (n : Int32) (J : Bool) (a : Nat) (s : Nat × (Nat → Int32)) : Nat → Nat × (Nat → Int32)
  | 0 => s
  | k + 1 => stp P n J a k (rowF P n J a s k)
def allF (P : Nat) (n : Int32) (J : Bool) (s : Nat × (Nat → Int32)) : Nat → Nat × (Nat → Int32)
  | 0 => s
  | k + 1 => rowF P n J k (allF P n J s k) P
theorem jN_lt (P A B : Nat) (h1 : 1 ≤ P) : jN P A B < P := Nat.mod_lt _ h1
theorem row_spec (N : Nat) (hN : 20000 ≤ N) (P : Nat) (h5 : 5 ≤ P) (hP : P ≤ 61) (n : Int32) (J : Bool) (a2 : Int32) (hJ : a2 = if J = true then 1 else 0) (A : Nat) (hA : A < P) (s0 : Nat × (Nat → Int32)) (p0 a0 b0 pm0 : Int32) (f0 g0 : Nat → Int32) (hf : invTab P f0 P) (hg : rootTab P g0) :
    ∃ o, mi_run (mX6_all_b67 N (nI P) (nI A) n a2) N (nI s0.1, 0, p0, a0, b0, nI P, pm0, f0, g0, s0.2) = some o ∧ o.1 = nI (rowF P n J A s0 P).1 ∧ o.2.2.2.2.2.2.2.2.2 = (rowF P n J A s0 P).2 ∧ o.2.2.2.2.2.1 = nI P ∧ invTab P o.2.2.2.2.2.2.2.1 P ∧ rootTab P o.2.2.2.2.2.2.2.2.1 := by
  have h1 : 1 ≤ P := by omega
  have hP' : P ≤ 10007 := by omega
  refine mi_run_ok (mX6_all_b67 N (nI P) (nI A) n a2) (fun s => ∃ k, s.2.1 = nI k ∧ k ≤ P ∧ s.1 = nI (rowF P n J A s0 k).1 ∧ s.2.2.2.2.2.2.2.2.2 = (rowF P n J A s0 k).2 ∧ s.2.2.2.2.2.1 = nI P ∧ invTab P s.2.2.2.2.2.2.2.1 P ∧ rootTab P s.2.2.2.2.2.2.2.2.1) (fun o => o.1 = nI (rowF P n J A s0 P).1 ∧ o.2.2.2.2.2.2.2.2.2 = (rowF P n J A s0 P).2 ∧ o.2.2.2.2.2.1 = nI P ∧ invTab P o.2.2.2.2.2.2.2.1 P ∧ rootTab P o.2.2.2.2.2.2.2.2.1) (fun s => 15000 - s.2.1.toNatClampNeg) ?_ N (nI s0.1, 0, p0, a0, b0, nI P, pm0, f0, g0, s0.2) ⟨0, rfl, by omega, rfl, rfl, rfl, hf, hg⟩ ?_
  · intro ⟨x41, x42, x43, x44, x45, x46, x47, x48, x49, x50⟩ ⟨k, e2, hk, e1, e10, e6, hf', hg'⟩
    dsimp only at e2 e1 e10 e6 hf' hg'
    subst e2
    subst e1
    subst e10
    subst e6
    dsimp only [mX6_all_b67, mi_let]
    rcases Nat.lt_or_ge k P with hlt | hge
    · left
      obtain ⟨pm', f', g', e, hf2, hg2⟩ := takeM_spec N hN P h5 hP' x44 x45 (nI P) x47 (nI A) (nI k) x48 x49 (Or.inr ⟨P, rfl, h5, hP', hf', hg'⟩)
      have hj := jN_lt P A k h1
      refine ⟨(nI (rowF P n J A s0 (k + 1)).1, nI (k + 1), nI P, nI A, nI k, nI P, pm', f', g', (rowF P n J A s0 (k + 1)).2), ?_, ⟨k + 1, rfl, by omega, rfl, rfl, rfl, hf2, hg2⟩, ?_⟩
      · rw [if_neg (nI_ge hlt (by omega)), e]
        dsimp only [Option.bind]
        rw [splitM N P A k h1 hP' hA hlt]
        dsimp only
        have eR : rowF P n J A s0 (k + 1) = stp P n J A k (rowF P n J A s0 k) := rfl
        rw [eR]
        unfold stp
        have hd : disc P A k < P := Nat.mod_lt _ h1
        by_cases hz : disc P A k = 0
        · rw [if_pos hz, if_pos (show nI (disc P A k) = 0 by rw [hz]; rfl), nI_1]
        · rw [if_neg hz, if_neg (nI_ne0 (Nat.pos_of_ne_zero hz) (by omega))]
          obtain ⟨o, eo, q⟩ := here_spec N hN P A k h1 hP' hA hlt g' hg2
          obtain ⟨y1, y2⟩ := o
          dsimp only at q
          subst q
          rw [eo]
          dsimp only
          by_cases hh : nI (cnt P A k P) = n
          · rw [if_pos hh, if_pos hh, jOfM N P A k h1 hP' hA hlt f' hf2]
            dsimp only
            cases J with
            | false =>
              rw [if_pos (show a2 = 0 from hJ), if_neg (ix_nI (by omega) (by omega)), nI_clamp (by omega), nI_1, nI_1, if_neg (fun q => absurd q.1 (by decide))]
              rfl
            | true =>
              rw [if_neg (show ¬ a2 = 0 by rw [hJ]; decide), if_neg (ix_nI (by omega) (by omega)), if_neg (ix_nI (by omega) (by omega)), if_neg (ix_nI (by omega) (by omega)), nI_clamp (by omega), nI_1, nI_1]
              by_cases hs : (rowF P n true A s0 k).2 (jN P A k) = 0
              · rw [if_pos hs, if_neg (fun q => q.2 hs)]
                rfl
              · rw [if_neg hs, if_pos ⟨rfl, hs⟩, Int32.add_zero, Nat.add_zero]
                rfl
          · rw [if_neg hh, if_neg hh, nI_1]
      · show 15000 - (nI (k + 1)).toNatClampNeg < 15000 - (nI k).toNatClampNeg
        rw [nI_clamp (by omega), nI_clamp (by omega)]
        omega
    · right
      have e : k = P := by omega
      subst e
      rw [if_pos (nI_le (Nat.le_refl _) (by omega))]
      exact ⟨_, rfl, rfl, rfl, rfl, hf', hg'⟩
  · show 15000 - (nI 0).toNatClampNeg < N
    rw [nI_clamp (by omega)]
    omega
