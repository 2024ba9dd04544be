theorem f_sqf {F R : Type} [mFld F] [mRng R] {co : R → Nat → F} (h : isPol co) {a b : F} (hns : 4 * a * a * a + 27 * b * b ≠ 0) {g : R} (d : dvs (g * g) (fC h a b)) : g ≠ 0 ∧ sz h g ≤ 1 := by
  obtain ⟨k, e⟩ := d
  have sf := sz_f h a b
  have g0 : g ≠ 0 := fun z => by rw [e, z, show (0 : R) * 0 * k = 0 by grind, sz_zero] at sf; omega
  refine ⟨g0, ?_⟩
  have k0 : k ≠ 0 := fun z => by rw [e, z, show g * g * 0 = (0 : R) by grind, sz_zero] at sf; omega
  obtain ⟨d1, h1⟩ := sz_pos h g0
  obtain ⟨d2, h2⟩ := sz_pos h k0
  have h3 := sz_mul h (sz_mul h h1 h1) h2
  rw [← e, sf] at h3
  refine Classical.byContradiction (fun ne => ?_)
  have d11 : d1 = 1 := by omega
  rw [d11] at h1
  -- g has a root
  have ht := sz_top h h1
  have hi := Lean.Grind.Field.mul_inv_cancel ht
  let c := - (co g 0 * (co g 1)⁻¹)
  have rt : ev h (fun x => x) c g = 0 := by
    rw [ev_rs h hm_id c (d := 2) (fun n hn => sz_end h g (by omega))]
    show (0 : F) + co g 0 * c ^ 0 + co g 1 * c ^ 1 = 0
    rw [Lean.Grind.Semiring.pow_zero, Lean.Grind.Semiring.pow_one]
    show (0 : F) + co g 0 * 1 + co g 1 * (- (co g 0 * (co g 1)⁻¹)) = 0
    grind
  obtain ⟨w, hw⟩ := po_root h rt
  have hh := ev_hom h (hm_id (F := F)) c
  have m : c * c * c + a * c + b = 0 := by
    have := ev_f h (hm_id (F := F)) a b c
    rw [← this, e, hm_mul hh, hm_mul hh, rt]; grind
  have e3 : fC h a b = (pX h - pC h c) * (pX h * pX h + pC h c * pX h + pC h c * pC h c + pC h a) := by
    have mm : pC h (c * c * c + a * c + b) = 0 := by rw [m, pC_zero]
    rw [pC_add, pC_add, pC_mul, pC_mul, pC_mul] at mm
    exact rl_fz mm
  have e4 : pX h * pX h + pC h c * pX h + pC h c * pC h c + pC h a = (pX h - pC h c) * (w * w * k) := by
    refine po_canc h (XC_ne h c) ?_
    rw [← e3, e, hw]; grind
  have e5 := congrArg (ev h (fun x => x) c) e4
  rw [hm_mul hh, ev_XC, hm_add hh, hm_add hh, hm_add hh, hm_mul hh, hm_mul hh, hm_mul hh, ev_X h hm_id, ev_C h hm_id, ev_C h hm_id] at e5
  have g0 : 3 * c * c + a = 0 := by grind
  exact hns (by grind)
theorem sqf_dvs {F R : Type} [mFld F] [mRng R] {co : R → Nat → F} (h : isPol co) {f g z k : R} (hf : ∀ g : R, dvs (g * g) f → g ≠ 0 ∧ sz h g ≤ 1) (g0 : g ≠ 0) (e : f * (z * z) = g * g * k) : dvs g z := by
  obtain ⟨d, u, v, h1, ⟨g', h2⟩, ⟨z', h3⟩⟩ := po_gcd h _ g z (Nat.le_refl _)
  have d0 : d ≠ 0 := fun w => g0 (by rw [h2, w]; grind)
  have c1 : cop g' z' := ⟨u, v, po_canc h d0 (by rw [h2, h3] at h1; grind)⟩
  have e2 : f * (z' * z') = g' * g' * k := by
    refine po_canc h (p := d * d) (fun w => by rcases po_dom h w with w | w <;> exact d0 w) ?_
    rw [h2, h3] at e; grind
  have c2 : cop (g' * g') (z' * z') := by
    have c3 := cop_mul c1 c1
    have c4 := cop_symm c3
    exact cop_symm (cop_mul c4 c4)
  obtain ⟨n0, n1⟩ := hf g' (cop_dvs c2 ⟨k, by rw [← e2]; grind⟩)
  obtain ⟨i, hi⟩ := unit_1 h n0 n1
  exact ⟨i * z', by rw [h2, h3]; grind⟩
theorem dvs_rs {R : Type} [mRng R] {t : R} {f : Nat → R} {i : Nat} : ∀ {K : Nat}, i < K → (∀ j, j < K → j ≠ i → dvs t (f j)) → dvs t (rs K f - f i)
  | 0, hi, _ => absurd hi (Nat.not_lt_zero _)
  | K + 1, hi, k => by
    by_cases e : i = K
    · subst e
      show dvs t (rs i f + f i - f i)
      rw [show rs i f + f i - f i = rs i f by grind]
      have : ∀ m, m ≤ i → dvs t (rs m f) := by
        intro m
        induction m with
        | zero => exact fun _ => ⟨0, by show (0 : R) = t * 0; grind⟩
        | succ m ih => exact fun hm => dvs_add (ih (by omega)) (k m (by omega) (by omega))
      exact this i (Nat.le_refl i)
    · show dvs t (rs K f + f K - f i)
      rw [show rs K f + f K - f i = (rs K f - f i) + f K by grind]
      exact dvs_add (dvs_rs (by omega) (fun j hj => k j (by omega))) (k K (by omega) (fun z => e z.symm))
theorem rl_s1 {R : Type} [mRng R] {t X A g s k q p : R} (pe : p = q * t) (hk : s - (g * (p * q) + 0 * (q * q)) = t * t * k) : X * (p * p) + s - A * (p * p) - g * (t * (q * q)) = t * t * (k + X * (q * q) - A * (q * q)) := by
  have : s = g * (p * q) + t * t * k := by grind
  rw [this, pe]; grind
theorem rl_s2 {R : Type} [mRng R] {t g s k q p : R} (pe : p = q * t) (hk : s - (g * (p * (q * q)) + 0 * (q * q * q)) = t * t * k) : p * p * p - s + g * (t * (q * q * q)) = t * t * (- k + t * (q * q * q)) := by
  have : s = g * (p * (q * q)) + t * t * k := by grind
  rw [this, pe]; grind
theorem rl_s3 {R : Type} [mRng R] {t g q k1 k2 u z M : R} (hM : z = u * M) (hk1 : u - g * (t * (q * q)) = t * t * k1) (hk2 : z + g * (t * (q * q * q)) = t * t * k2) : t * ((g * (q * q) + t * k1) * M) = t * (- (g * (q * q * q)) + t * k2) := by
  have e1 : u = g * (t * (q * q)) + t * t * k1 := by grind
  have e2 : z = t * t * k2 - g * (t * (q * q * q)) := by grind
  rw [e1, e2] at hM; grind
theorem rl_z2 {F : Type} [mRng F] (x y : F) : x * (0 * 0) + y * (0 * 0) = 0 := by grind
theorem rl_z2' {F : Type} [mRng F] (x y : F) : x * (0 * (0 * 0)) + y * (0 * 0 * 0) = 0 := by grind
theorem rl_z3 {F : Type} [mRng F] (x g v q : F) : x * (0 * 0) + (g * (0 * q) + v * (q * q)) = v * (q * q) := by grind
theorem rl_z3' {F : Type} [mRng F] (g v q : F) : 0 * 0 * 0 - (g * (0 * (q * q)) + v * (q * q * q)) = - (v * (q * q * q)) := by grind
theorem rl_z4 {F : Type} [mFld F] {g q k1 k2 mm d : F} (h : (g * (q * q) + (d - d) * k1) * mm = - (g * (q * q * q)) + (d - d) * k2) : (g * (q * q)) * (mm + q) = 0 := by grind
theorem rl_z5 {F : Type} [mFld F] {v q mm A : F} (h : - ((v + v) * (q * q * q)) = (v * (q * q) - A * (0 * 0)) * mm) : (v * (q * q)) * (mm + 2 * q) = 0 := by grind
/-- the leading numbers of U and Z are 1 -/
theorem vU_top {F R : Type} [mFld F] [mRng R] {co : R → Nat → F} (h : isPol co) (e G V : Nat → F) (K : Nat) : sz h (vU h e G V K) = 2 * K + 2 ∧ co (vU h e G V K) (2 * K + 1) = 1 := by
  obtain ⟨s1, t1⟩ := pr_sz h e K
  have s2 := sz_mul h s1 s1
  have t2 := (sz_mle h (Nat.le_of_eq s1) (Nat.le_of_eq s1)).2
  have s3 := sz_mul h (sz_X h) s2
  have t3 := (sz_mle h (Nat.le_of_eq (sz_X h)) (Nat.le_of_eq s2)).2
  have r : sz h (rs K (fun i => pC h (G i) * (pr h e K * pri h e i K) + pC h (V i) * (pri h e i K * pri h e i K))) ≤ 2 * K := sz_rs h (fun i hi => by
    obtain ⟨s4, -⟩ := pri_sz h e hi
    obtain ⟨k, hk⟩ : ∃ k, K = k + 1 := ⟨K - 1, by omega⟩
    have u1 := sm_mul h (Nat.le_of_eq s1) (Nat.le_of_eq s4)
    have u2 := sm_mul h (w := pri h e i K) (n := k) (by omega) (Nat.le_of_eq s4)
    exact sz_add h (sm_C h _ (by omega)) (sm_C h _ (by omega)))
  unfold vU
  refine ⟨by rw [sz_addl h (by omega), s3]; omega, ?_⟩
  rw [po_add h, sz_end h (rs K _) (by omega), show 2 * K + 1 = 1 + (K + K) by omega, t3, t2, t1, co_X h, if_pos rfl]; grind
theorem vZ_top {F R : Type} [mFld F] [mRng R] {co : R → Nat → F} (h : isPol co) (e G V : Nat → F) (K : Nat) : sz h (vZ h e G V K) = 3 * K + 1 ∧ co (vZ h e G V K) (3 * K) = 1 := by
  obtain ⟨s1, t1⟩ := pr_sz h e K
  have s2 := sz_mul h s1 s1
  have t2 := (sz_mle h (Nat.le_of_eq s1) (Nat.le_of_eq s1)).2
  have s3 := sz_mul h s2 s1
  have t3 := (sz_mle h (Nat.le_of_eq s2) (Nat.le_of_eq s1)).2
  have r : sz h (rs K (fun i => pC h (G i) * (pr h e K * (pri h e i K * pri h e i K)) + pC h (V i + V i) * (pri h e i K * pri h e i K * pri h e i K))) ≤ 3 * K := sz_rs h (fun i hi => by
    obtain ⟨s4, -⟩ := pri_sz h e hi
    obtain ⟨k, hk⟩ : ∃ k, K = k + 1 := ⟨K - 1, by omega⟩
    have u2 := sm_mul h (w := pri h e i K) (n := k) (by omega) (Nat.le_of_eq s4)
    have u1 := sm_mul h (Nat.le_of_eq s1) u2
    have u3 := sm_mul h (w := pri h e i K * pri h e i K) (n := k + k) (by omega) (Nat.le_of_eq s4)
    exact sz_add h (sm_C h _ (by omega)) (sm_C h _ (by omega)))
  unfold vZ
  rw [show ∀ x y : R, x - y = x + - y by intro x y; grind]
  by_cases k0 : K = 0
  · subst k0
    have r0 : rs 0 (fun i => pC h (G i) * (pr h e 0 * (pri h e i 0 * pri h e i 0)) + pC h (V i + V i) * (pri h e i 0 * pri h e i 0 * pri h e i 0)) = (0 : R) := rfl
    rw [r0, show ∀ x : R, x + -0 = x by intro x; grind]
    exact ⟨by rw [s3], by rw [show 3 * 0 = 0 + 0 + 0 by omega, t3, t2, t1]; grind⟩
  · refine ⟨by rw [sz_addl h (by rw [sz_neg]; omega), s3]; omega, ?_⟩
    rw [po_add h, po_neg h, sz_end h (rs K _) (by omega), show 3 * K = K + K + K by omega, t3, t2, t1]; grind
/-- the numbers: 2 where V isn't 0, else 1 -/
noncomputable def mu {F : Type} [mFld F] (V : Nat → F) (i : Nat) : F := @ite F (V i = 0) (Classical.propDecidable _) 1 2
theorem velu_sing {F R : Type} [mFld F] [mRng R] {co : R → Nat → F} (h : isPol co) {a b α : F} (h2 : (2 : F) ≠ 0) (hns : 4 * a * a * a + 27 * b * b ≠ 0) {e G V : Nat → F} {K : Nat} (hd : ∀ i j, i < K → j < K → e i = e j → i = j) (hG : ∀ i, i < K → V i = 0 → G i ≠ 0)
    (hC : vC h a b (-3 * (α * α)) (2 * (α * α * α)) e G V K = 0) : 1 + rs K (mu V) = 0 := by
  have hid := hm_id (F := F)
  obtain ⟨sU, tU⟩ := vU_top h e G V K
  obtain ⟨sZ, tZ⟩ := vZ_top h e G V K
  obtain ⟨sp, tp⟩ := pr_sz h e K
  have E : fC h a b * (vZ h e G V K * vZ h e G V K) = (vU h e G V K - pC h α * (pr h e K * pr h e K)) * (vU h e G V K - pC h α * (pr h e K * pr h e K)) * (vU h e G V K + 2 * (pC h α * (pr h e K * pr h e K))) := by
    unfold vC at hC
    rw [show (-3 : F) * (α * α) = - (3 * (α * α)) by grind, pC_neg, pC_num, pC_num, pC_mul, pC_mul, pC_mul] at hC
    generalize vU h e G V K = u at *
    generalize vZ h e G V K = z at *
    generalize pr h e K = p at *
    generalize pC h α = A at *
    generalize fC h a b = f at *
    grind
  have sp2 := sz_mul h sp sp
  have sA : sz h (pC h α * (pr h e K * pr h e K)) ≤ 2 * K + 1 := sm_C h _ (by omega)
  have sUA : sz h (vU h e G V K - pC h α * (pr h e K * pr h e K)) = 2 * K + 1 + 1 := by
    rw [show ∀ x y : R, x - y = x + - y by intro x y; grind, sz_addl h (by rw [sz_neg]; omega), sU]
  have tUA : co (vU h e G V K - pC h α * (pr h e K * pr h e K)) (2 * K + 1) = 1 := by rw [po_sub h, tU, sz_end h (pC h α * _) (by omega)]; grind
  have UA0 : vU h e G V K - pC h α * (pr h e K * pr h e K) ≠ 0 := fun z => by rw [z, sz_zero] at sUA; omega
  obtain ⟨M, hM⟩ := sqf_dvs h (fun g d => f_sqf h hns d) UA0 E
  have M0 : M ≠ 0 := fun z => by rw [hM, z, show ∀ x : R, x * 0 = 0 by intro x; grind, sz_zero] at sZ; omega
  obtain ⟨d, sM⟩ := sz_pos h M0
  have q1 := sz_mul h sUA sM
  have q2 := (sz_mle h (Nat.le_of_eq sUA) (Nat.le_of_eq sM)).2
  rw [← hM, sZ] at q1
  have dK : K = d + 1 := by omega
  rw [← hM, show 2 * K + 1 + d = 3 * K by omega, tZ, tUA] at q2
  have tM : co M (K - 1) = 1 := by rw [show K - 1 = d by omega, q2]; grind
  -- the values at e(i)
  have val : ∀ i, i < K → ev h (fun x => x) (e i) M = - (mu V i * ev h (fun x => x) (e i) (pri h e i K)) := fun i hi => by
    have hh := ev_hom h hid (e i)
    have p0 := pr_0 h e hi
    have pj := fun j (hj : j < K) (hn : j ≠ i) => pri_0 h e hi hj (fun z => hn z.symm)
    have qn := pri_n h hd hi
    by_cases v0 : V i = 0
    · -- the simple place: cut X - e(i) off
      have m1 : mu V i = 1 := if_pos v0
      have g0 := hG i hi v0
      have pe := pri_pr h e i hi
      have tj : ∀ j, j < K → j ≠ i → dvs (pX h - pC h (e i)) (pri h e j K) := fun j hj hn => po_root h (pj j hj hn)
      have U1 : dvs ((pX h - pC h (e i)) * (pX h - pC h (e i))) (vU h e G V K - pC h α * (pr h e K * pr h e K) - pC h (G i) * ((pX h - pC h (e i)) * (pri h e i K * pri h e i K))) := by
        have w := dvs_rs (t := (pX h - pC h (e i)) * (pX h - pC h (e i))) (f := fun j => pC h (G j) * (pr h e K * pri h e j K) + pC h (V j) * (pri h e j K * pri h e j K)) hi (fun j hj hn => by
          obtain ⟨k, hk⟩ := tj j hj hn
          exact ⟨pC h (G j) * (pri h e i K * k) + pC h (V j) * (k * k), by
            show pC h (G j) * (pr h e K * pri h e j K) + pC h (V j) * (pri h e j K * pri h e j K) = _
            rw [hk, pe]; generalize pri h e i K = q; grind⟩)
        obtain ⟨k, hk⟩ := w
        refine ⟨k + pX h * (pri h e i K * pri h e i K) - pC h α * (pri h e i K * pri h e i K), ?_⟩
        unfold vU
        simp only [v0, pC_zero] at hk
        exact rl_s1 pe hk
      have Z1 : dvs ((pX h - pC h (e i)) * (pX h - pC h (e i))) (vZ h e G V K + pC h (G i) * ((pX h - pC h (e i)) * (pri h e i K * pri h e i K * pri h e i K))) := by
        have w := dvs_rs (t := (pX h - pC h (e i)) * (pX h - pC h (e i))) (f := fun j => pC h (G j) * (pr h e K * (pri h e j K * pri h e j K)) + pC h (V j + V j) * (pri h e j K * pri h e j K * pri h e j K)) hi (fun j hj hn => by
          obtain ⟨k, hk⟩ := tj j hj hn
          exact ⟨pC h (G j) * (pri h e i K * (k * k) * (pX h - pC h (e i))) + pC h (V j + V j) * (k * k * k * (pX h - pC h (e i))), by
            show pC h (G j) * (pr h e K * (pri h e j K * pri h e j K)) + pC h (V j + V j) * (pri h e j K * pri h e j K * pri h e j K) = _
            rw [hk, pe]; generalize pri h e i K = q; generalize pC h (V j + V j) = vv; grind⟩)
        obtain ⟨k, hk⟩ := w
        refine ⟨- k + (pX h - pC h (e i)) * (pri h e i K * pri h e i K * pri h e i K), ?_⟩
        unfold vZ
        have vv : V i + V i = 0 := by rw [v0]; grind
        simp only [vv, pC_zero] at hk
        exact rl_s2 pe hk
      obtain ⟨k1, hk1⟩ := U1
      obtain ⟨k2, hk2⟩ := Z1
      have r : (pC h (G i) * (pri h e i K * pri h e i K) + (pX h - pC h (e i)) * k1) * M = - (pC h (G i) * (pri h e i K * pri h e i K * pri h e i K)) + (pX h - pC h (e i)) * k2 := by
        exact po_canc h (XC_ne h (e i)) (rl_s3 hM hk1 hk2)
      have r2 := congrArg (ev h (fun x => x) (e i)) r
      rw [hm_mul hh, hm_add hh, hm_mul hh, hm_mul hh, hm_mul hh, hm_add hh, hm_neg hh, hm_mul hh, hm_mul hh, hm_mul hh, hm_mul hh, ev_XC, ev_C h hid] at r2
      rw [m1]
      generalize ev h (fun x => x) (e i) (pri h e i K) = q at *
      generalize ev h (fun x => x) (e i) M = mm at *
      have : (G i * (q * q)) * (mm + q) = 0 := rl_z4 r2
      rcases Lean.Grind.Field.of_mul_eq_zero this with w | w
      · rcases Lean.Grind.Field.of_mul_eq_zero w with w | w
        · exact absurd w g0
        · rcases Lean.Grind.Field.of_mul_eq_zero w with w | w <;> exact absurd w qn
      · grind
    · have m1 : mu V i = 2 := if_neg v0
      have eU : ev h (fun x => x) (e i) (vU h e G V K) = V i * (ev h (fun x => x) (e i) (pri h e i K) * ev h (fun x => x) (e i) (pri h e i K)) := by
        unfold vU
        rw [hm_add hh, hm_mul hh, hm_mul hh, p0, hm_rs hh, rs_one hi (fun j hj hn => by simp only [hm_add hh, hm_mul hh, p0, pj j hj hn]; exact rl_z2 _ _)]
        simp only [hm_add hh, hm_mul hh, p0, ev_C h hid]; exact rl_z3 _ _ _ _
      have eZ : ev h (fun x => x) (e i) (vZ h e G V K) = - ((V i + V i) * (ev h (fun x => x) (e i) (pri h e i K) * ev h (fun x => x) (e i) (pri h e i K) * ev h (fun x => x) (e i) (pri h e i K))) := by
        unfold vZ
        rw [hm_sub hh, hm_mul hh, hm_mul hh, p0, hm_rs hh, rs_one hi (fun j hj hn => by simp only [hm_add hh, hm_mul hh, p0, pj j hj hn]; exact rl_z2' _ _)]
        simp only [hm_add hh, hm_mul hh, p0, ev_C h hid]; exact rl_z3' _ _ _
      have r2 := congrArg (ev h (fun x => x) (e i)) hM
      rw [hm_mul hh, hm_sub hh, hm_mul hh, hm_mul hh, p0, eU, eZ] at r2
      rw [m1]
      generalize ev h (fun x => x) (e i) (pri h e i K) = q at *
      generalize ev h (fun x => x) (e i) M = mm at *
      have : (V i * (q * q)) * (mm + 2 * q) = 0 := rl_z5 r2
      rcases Lean.Grind.Field.of_mul_eq_zero this with w | w
      · rcases Lean.Grind.Field.of_mul_eq_zero w with w | w
        · exact absurd w v0
        · rcases Lean.Grind.Field.of_mul_eq_zero w with w | w <;> exact absurd w qn
      · grind
  -- M is what it must be
  have sN : sz h (M + rs K (fun i => pC h (mu V i) * pri h e i K)) ≤ K := sz_add h (by omega) (sz_rs h (fun i hi => sm_C h _ (by have := (pri_sz h e hi).1; omega)))
  have N0 : M + rs K (fun i => pC h (mu V i) * pri h e i K) = 0 := Classical.byContradiction (fun ne => by
    have := po_roots h ((List.range K).map e) _ ne (by
      unfold List.Nodup
      rw [List.pairwise_map]
      exact List.Pairwise.imp_of_mem (fun ha hb hne z => hne (hd _ _ (List.mem_range.mp ha) (List.mem_range.mp hb) z)) List.nodup_range) (fun c hc => by
      obtain ⟨i, hi, rfl⟩ := List.mem_map.mp hc
      have hi' := List.mem_range.mp hi
      have hh := ev_hom h hid (e i)
      rw [hm_add hh, val i hi', hm_rs hh, rs_one hi' (fun j hj hn => by rw [hm_mul hh, pri_0 h e hi' hj (fun z => hn z.symm)]; grind), hm_mul hh, ev_C h hid]; grind)
    rw [List.length_map, List.length_range] at this
    omega)
  have c9 := congrArg (fun w => co w (K - 1)) N0
  simp only [po_add h, po_zero h, tM] at c9
  have c10 : co (rs K (fun i => pC h (mu V i) * pri h e i K)) (K - 1) = rs K (mu V) := by
    have : ∀ m, m ≤ K → co (rs m (fun i => pC h (mu V i) * pri h e i K)) (K - 1) = rs m (mu V) := by
      intro m
      induction m with
      | zero => exact fun _ => po_zero h _
      | succ m ih =>
        intro hm
        show co (rs m (fun i => pC h (mu V i) * pri h e i K) + pC h (mu V m) * pri h e m K) (K - 1) = rs m (mu V) + mu V m
        rw [po_add h, ih (by omega), co_Cm h, (pri_sz h e (i := m) (by omega)).2]; grind
    exact this K (Nat.le_refl K)
  rw [c10] at c9
  exact c9
