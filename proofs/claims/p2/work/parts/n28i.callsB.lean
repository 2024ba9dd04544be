/-! calls over the list of points -/
theorem isP13 (N : Nat) (hN : 2 ^ 64 ≤ N) (n : Nat) (hn : n ≤ 10300) (x : Int32) (hx : x = 0 ∨ x = 1) : ∃ o, mi_run (mX6_isPrime_b13 N (nI n)) N (x, 2) = some o ∧ (o.1 = 0 ∨ o.1 = 1) := by
  obtain ⟨o, ho, hq⟩ := mi_run_ok (mX6_isPrime_b13 N (nI n)) (fun s => ∃ k, 2 ≤ k ∧ k ≤ 103 ∧ s.2 = nI k ∧ (s.1 = 0 ∨ s.1 = 1)) (fun o => o.1 = 0 ∨ o.1 = 1) (fun s => 200 - s.2.toNatClampNeg) (by
    rintro ⟨y, w⟩ ⟨k, hk2, hk, e, hy⟩
    have e : w = nI k := e
    have hy : y = 0 ∨ y = 1 := hy
    subst e
    dsimp only [mX6_isPrime_b13, mi_let]
    rw [pk_mul]
    have hkk : k * k ≤ 103 * 103 := Nat.mul_le_mul hk hk
    by_cases c : n < k * k
    · right; rw [if_pos (nI_lt c (by omega))]; exact ⟨_, rfl, hy⟩
    · rw [if_neg (nI_nlt (by omega) (by omega))]
      have hk' : k ≤ 102 := Nat.le_of_not_lt fun h => by
        have : 103 * 103 ≤ k * k := Nat.mul_le_mul h h
        omega
      by_cases c2 : y = 0
      · right; rw [if_pos c2]; exact ⟨_, rfl, hy⟩
      · left
        rw [if_neg c2, if_neg (nI_ne0 (by omega) (by omega)), nI_1]
        have hmu : 200 - (nI (k + 1)).toNatClampNeg < 200 - (nI k).toNatClampNeg := by rw [nI_clamp (by omega), nI_clamp (by omega)]; omega
        split
        · exact ⟨_, rfl, ⟨k + 1, by omega, by omega, rfl, Or.inl rfl⟩, hmu⟩
        · exact ⟨_, rfl, ⟨k + 1, by omega, by omega, rfl, Or.inr rfl⟩, hmu⟩) N (x, 2) ⟨2, by omega, by omega, rfl, hx⟩ (by show 200 - _ < N; omega)
  exact ⟨o, ho, hq⟩
theorem isPrimeA (N : Nat) (hN : 2 ^ 64 ≤ N) (n : Nat) (hn : n ≤ 10300) : ∃ z, mX6_isPrime N (nI n) = some z := by
  unfold mX6_isPrime
  have hb : ∀ y : Int32, y = 0 ∨ y = 1 → vp_nar .boolean y = y := fun y h => by rcases h with rfl | rfl <;> decide
  split
  · obtain ⟨o, ho, hq⟩ := isP13 N hN n hn 0 (Or.inl rfl)
    rw [ho]; simp only [Option.bind_some]
    rw [if_pos (hb _ hq)]; exact ⟨_, rfl⟩
  · obtain ⟨o, ho, hq⟩ := isP13 N hN n hn 1 (Or.inr rfl)
    rw [ho]; simp only [Option.bind_some]
    rw [if_pos (hb _ hq)]; exact ⟨_, rfl⟩
theorem sub1_toInt {n : Nat} (h0 : 0 < n) (hn : n < 2 ^ 31) : ((nI n - 1).toInt64).toInt = ((n - 1 : Nat) : Int) := by
  rw [Int32.toInt_toInt64, Int32.toInt_sub, nI_toInt hn, show (1 : Int32).toInt = 1 by decide, Int.bmod_eq_of_le (by omega) (by omega)]; omega
theorem T_nth {N : Nat} (hN : 2 ^ 64 ≤ N) {cu : Int32} {ps as bs : Nat → Int32} (hS : ST cu ps as bs) {p a b rt pm : Int32} {f g pts ah : Nat → Int32} (hC : CUR p a b rt pm f g pts ah) (c : Int32) (x : Int32) : ∃ r p1 a1 b1 rt1 pm1 f1 g1 t1 q1, mX6_nth N p a b rt pm cu f g pts ah ps as bs c x = some (r, p1, a1, b1, rt1, pm1, f1, g1, t1, q1) ∧ CUR p1 a1 b1 rt1 pm1 f1 g1 t1 q1 := by
  unfold mX6_nth
  rcases has_spec N (by omega) hS hC c with e | ⟨P, A, B, pm', f', g', e, hCU, hix⟩
  · rw [e]; simp only [Option.bind_some]; rw [if_pos trivial]; exact ⟨_, _, _, _, _, _, _, _, _, _, rfl, hC⟩
  · have h1 := hCU.pos.1
    have hP := hCU.pos.2.1
    have fin : ∀ r0 : Int32, ∃ r p1 a1 b1 rt1 pm1 f1 g1 t1 q1, some (r0, nI P, nI A, nI B, nI P, pm', f', g', pts, ah) = some (r, p1, a1, b1, rt1, pm1, f1, g1, t1, q1) ∧ CUR p1 a1 b1 rt1 pm1 f1 g1 t1 q1 := fun r0 => ⟨_, _, _, _, _, _, _, _, _, _, rfl, Or.inr ⟨P, A, B, hCU⟩⟩
    have finL : ∀ (r0 : Int32) (t0 q0 : Nat → Int32), LK P A B P t0 q0 → ∃ r p1 a1 b1 rt1 pm1 f1 g1 t1 q1, some (r0, nI P, nI A, nI B, nI P, nI (cnt P A B P), f', g', t0, q0) = some (r, p1, a1, b1, rt1, pm1, f1, g1, t1, q1) ∧ CUR p1 a1 b1 rt1 pm1 f1 g1 t1 q1 := fun r0 t0 q0 hL => ⟨_, _, _, _, _, _, _, _, _, _, rfl, Or.inr ⟨P, A, B, hCU.listed hL⟩⟩
    have hcnt := cnt_b hCU
    rw [e]; simp only [Option.bind_some]; rw [if_neg (by decide)]
    obtain ⟨t, q, el, hCL, hL⟩ := listE N (by omega) hCU
    rw [el]; simp only [Option.bind_some]
    rw [inE]; simp only [Option.bind_some]
    by_cases k : inF x.toInt64 0 ((nI (cnt P A B P) - 1).toInt64) = 0
    · rw [if_pos k]; exact finL _ _ _ hL
    · rw [if_neg k]
      obtain ⟨n, hn, hn2, rfl⟩ := in_nat (lo := 0) (hi := cnt P A B P - 1) (by decide) (sub1_toInt hcnt.1 (by omega)) k
      rw [if_neg (ix_nI (k := n) (n := 10300) (by omega) (by omega))]
      exact finL _ _ _ hL
theorem T_count {N : Nat} (hN : 2 ^ 64 ≤ N) {cu : Int32} {ps as bs : Nat → Int32} (hS : ST cu ps as bs) {p a b rt pm : Int32} {f g pts ah : Nat → Int32} (hC : CUR p a b rt pm f g pts ah) (c : Int32) : ∃ r p1 a1 b1 rt1 pm1 f1 g1 t1 q1, mX6_count N p a b rt pm cu f g pts ah ps as bs c = some (r, p1, a1, b1, rt1, pm1, f1, g1, t1, q1) ∧ CUR p1 a1 b1 rt1 pm1 f1 g1 t1 q1 := by
  unfold mX6_count
  rcases has_spec N (by omega) hS hC c with e | ⟨P, A, B, pm', f', g', e, hCU, hix⟩
  · rw [e]; simp only [Option.bind_some]; rw [if_pos trivial]; exact ⟨_, _, _, _, _, _, _, _, _, _, rfl, hC⟩
  · have h1 := hCU.pos.1
    have hP := hCU.pos.2.1
    have fin : ∀ r0 : Int32, ∃ r p1 a1 b1 rt1 pm1 f1 g1 t1 q1, some (r0, nI P, nI A, nI B, nI P, pm', f', g', pts, ah) = some (r, p1, a1, b1, rt1, pm1, f1, g1, t1, q1) ∧ CUR p1 a1 b1 rt1 pm1 f1 g1 t1 q1 := fun r0 => ⟨_, _, _, _, _, _, _, _, _, _, rfl, Or.inr ⟨P, A, B, hCU⟩⟩
    have finL : ∀ (r0 : Int32) (t0 q0 : Nat → Int32), LK P A B P t0 q0 → ∃ r p1 a1 b1 rt1 pm1 f1 g1 t1 q1, some (r0, nI P, nI A, nI B, nI P, nI (cnt P A B P), f', g', t0, q0) = some (r, p1, a1, b1, rt1, pm1, f1, g1, t1, q1) ∧ CUR p1 a1 b1 rt1 pm1 f1 g1 t1 q1 := fun r0 t0 q0 hL => ⟨_, _, _, _, _, _, _, _, _, _, rfl, Or.inr ⟨P, A, B, hCU.listed hL⟩⟩
    have hcnt := cnt_b hCU
    rw [e]; simp only [Option.bind_some]; rw [if_neg (by decide)]
    obtain ⟨t, q, el, hCL, hL⟩ := listE N (by omega) hCU
    rw [el]; simp only [Option.bind_some]
    exact finL _ _ _ hL
theorem T_supersingular {N : Nat} (hN : 2 ^ 64 ≤ N) {cu : Int32} {ps as bs : Nat → Int32} (hS : ST cu ps as bs) {p a b rt pm : Int32} {f g pts ah : Nat → Int32} (hC : CUR p a b rt pm f g pts ah) (c : Int32) : ∃ r p1 a1 b1 rt1 pm1 f1 g1 t1 q1, mX6_supersingular N p a b rt pm cu f g pts ah ps as bs c = some (r, p1, a1, b1, rt1, pm1, f1, g1, t1, q1) ∧ CUR p1 a1 b1 rt1 pm1 f1 g1 t1 q1 := by
  unfold mX6_supersingular
  rcases has_spec N (by omega) hS hC c with e | ⟨P, A, B, pm', f', g', e, hCU, hix⟩
  · rw [e]; simp only [Option.bind_some]; rw [if_pos trivial]; exact ⟨_, _, _, _, _, _, _, _, _, _, rfl, hC⟩
  · have h1 := hCU.pos.1
    have hP := hCU.pos.2.1
    have fin : ∀ r0 : Int32, ∃ r p1 a1 b1 rt1 pm1 f1 g1 t1 q1, some (r0, nI P, nI A, nI B, nI P, pm', f', g', pts, ah) = some (r, p1, a1, b1, rt1, pm1, f1, g1, t1, q1) ∧ CUR p1 a1 b1 rt1 pm1 f1 g1 t1 q1 := fun r0 => ⟨_, _, _, _, _, _, _, _, _, _, rfl, Or.inr ⟨P, A, B, hCU⟩⟩
    have finL : ∀ (r0 : Int32) (t0 q0 : Nat → Int32), LK P A B P t0 q0 → ∃ r p1 a1 b1 rt1 pm1 f1 g1 t1 q1, some (r0, nI P, nI A, nI B, nI P, nI (cnt P A B P), f', g', t0, q0) = some (r, p1, a1, b1, rt1, pm1, f1, g1, t1, q1) ∧ CUR p1 a1 b1 rt1 pm1 f1 g1 t1 q1 := fun r0 t0 q0 hL => ⟨_, _, _, _, _, _, _, _, _, _, rfl, Or.inr ⟨P, A, B, hCU.listed hL⟩⟩
    have hcnt := cnt_b hCU
    rw [e]; simp only [Option.bind_some]; rw [if_neg (by decide)]
    obtain ⟨t, q, el, hCL, hL⟩ := listE N (by omega) hCU
    rw [el]; simp only [Option.bind_some]
    rw [if_neg (nz_nI h1 hP)]
    dsimp only [mi_let]
    split
    all_goals exact finL _ _ _ hL
theorem T_order {N : Nat} (hN : 2 ^ 64 ≤ N) {cu : Int32} {ps as bs : Nat → Int32} (hS : ST cu ps as bs) {p a b rt pm : Int32} {f g pts ah : Nat → Int32} (hC : CUR p a b rt pm f g pts ah) (c : Int32) (x : Int32) : ∃ r p1 a1 b1 rt1 pm1 f1 g1 t1 q1, mX6_order N p a b rt pm cu f g pts ah ps as bs c x = some (r, p1, a1, b1, rt1, pm1, f1, g1, t1, q1) ∧ CUR p1 a1 b1 rt1 pm1 f1 g1 t1 q1 := by
  unfold mX6_order
  rcases has_spec N (by omega) hS hC c with e | ⟨P, A, B, pm', f', g', e, hCU, hix⟩
  · rw [e]; simp only [Option.bind_some]; rw [if_pos trivial]; exact ⟨_, _, _, _, _, _, _, _, _, _, rfl, hC⟩
  · have h1 := hCU.pos.1
    have hP := hCU.pos.2.1
    have fin : ∀ r0 : Int32, ∃ r p1 a1 b1 rt1 pm1 f1 g1 t1 q1, some (r0, nI P, nI A, nI B, nI P, pm', f', g', pts, ah) = some (r, p1, a1, b1, rt1, pm1, f1, g1, t1, q1) ∧ CUR p1 a1 b1 rt1 pm1 f1 g1 t1 q1 := fun r0 => ⟨_, _, _, _, _, _, _, _, _, _, rfl, Or.inr ⟨P, A, B, hCU⟩⟩
    have finL : ∀ (r0 : Int32) (t0 q0 : Nat → Int32), LK P A B P t0 q0 → ∃ r p1 a1 b1 rt1 pm1 f1 g1 t1 q1, some (r0, nI P, nI A, nI B, nI P, nI (cnt P A B P), f', g', t0, q0) = some (r, p1, a1, b1, rt1, pm1, f1, g1, t1, q1) ∧ CUR p1 a1 b1 rt1 pm1 f1 g1 t1 q1 := fun r0 t0 q0 hL => ⟨_, _, _, _, _, _, _, _, _, _, rfl, Or.inr ⟨P, A, B, hCU.listed hL⟩⟩
    have hcnt := cnt_b hCU
    rw [e]; simp only [Option.bind_some]; rw [if_neg (by decide)]
    rw [isPE N h1 hP]; simp only [Option.bind_some]
    split
    · exact fin _
    · obtain ⟨n, t, q, eo, -, -, -, -, hL⟩ := orderE N hN hCU x
      rw [eo]; simp only [Option.bind_some]
      exact finL _ _ _ hL
theorem co60 {N : Nat} (hN : 2 ^ 64 ≤ N) {n : Nat} (hn : n ≤ 4) (v : Int64) (u : Int32) (x y z : Int64) : ∃ o, mi_run (mX6_countOver_b60 N (nI n) v u) N (x, y, z, 2) = some o := by
  obtain ⟨o, ho, -⟩ := mi_run_ok (mX6_countOver_b60 N (nI n) v u) (fun s => ∃ k, k ≤ 7 ∧ s.2.2.2 = nI k) (fun _ => True) (fun s => 10 - s.2.2.2.toNatClampNeg) (by
    rintro ⟨x, y, z, w⟩ ⟨k, hk, e⟩
    have e : w = nI k := e
    subst e
    dsimp only [mX6_countOver_b60, mi_let]
    by_cases c : n < k
    · right; rw [if_pos (nI_lt c (by omega))]; exact ⟨_, rfl, trivial⟩
    · left
      rw [if_neg (nI_nlt (by omega) (by omega))]
      refine ⟨_, rfl, ⟨k + 1, by omega, nI_1 k⟩, ?_⟩
      show 10 - (nI k + 1).toNatClampNeg < 10 - (nI k).toNatClampNeg
      rw [nI_1, nI_clamp (by omega), nI_clamp (by omega)]; omega) N (x, y, z, 2) ⟨2, by omega, rfl⟩ (by show 10 - _ < N; omega)
  exact ⟨o, ho⟩
theorem T_countOver {N : Nat} (hN : 2 ^ 64 ≤ N) {cu : Int32} {ps as bs : Nat → Int32} (hS : ST cu ps as bs) {p a b rt pm : Int32} {f g pts ah : Nat → Int32} (hC : CUR p a b rt pm f g pts ah) (c : Int32) (x : Int32) : ∃ r p1 a1 b1 rt1 pm1 f1 g1 t1 q1, mX6_countOver N p a b rt pm cu f g pts ah ps as bs c x = some (r, p1, a1, b1, rt1, pm1, f1, g1, t1, q1) ∧ CUR p1 a1 b1 rt1 pm1 f1 g1 t1 q1 := by
  unfold mX6_countOver
  rcases has_spec N (by omega) hS hC c with e | ⟨P, A, B, pm', f', g', e, hCU, hix⟩
  · rw [e]; simp only [Option.bind_some]; rw [if_pos trivial]; exact ⟨_, _, _, _, _, _, _, _, _, _, rfl, hC⟩
  · have h1 := hCU.pos.1
    have hP := hCU.pos.2.1
    have fin : ∀ r0 : Int64, ∃ r p1 a1 b1 rt1 pm1 f1 g1 t1 q1, some (r0, nI P, nI A, nI B, nI P, pm', f', g', pts, ah) = some (r, p1, a1, b1, rt1, pm1, f1, g1, t1, q1) ∧ CUR p1 a1 b1 rt1 pm1 f1 g1 t1 q1 := fun r0 => ⟨_, _, _, _, _, _, _, _, _, _, rfl, Or.inr ⟨P, A, B, hCU⟩⟩
    have finL : ∀ (r0 : Int64) (t0 q0 : Nat → Int32), LK P A B P t0 q0 → ∃ r p1 a1 b1 rt1 pm1 f1 g1 t1 q1, some (r0, nI P, nI A, nI B, nI P, nI (cnt P A B P), f', g', t0, q0) = some (r, p1, a1, b1, rt1, pm1, f1, g1, t1, q1) ∧ CUR p1 a1 b1 rt1 pm1 f1 g1 t1 q1 := fun r0 t0 q0 hL => ⟨_, _, _, _, _, _, _, _, _, _, rfl, Or.inr ⟨P, A, B, hCU.listed hL⟩⟩
    have hcnt := cnt_b hCU
    rw [e]; simp only [Option.bind_some]; rw [if_neg (by decide)]
    rw [inE]; simp only [Option.bind_some]
    by_cases k : inF x.toInt64 1 4 = 0
    · rw [if_pos k]; exact fin _
    · rw [if_neg k]
      obtain ⟨n, hn, hn2, rfl⟩ := in_nat (lo := 1) (hi := 4) (by decide) (by decide) k
      obtain ⟨t, q, el, hCL, hL⟩ := listE N (by omega) hCU
      rw [el]; simp only [Option.bind_some]
      dsimp only [mi_let]
      obtain ⟨o, eo⟩ := co60 hN hn2 ((nI P).toInt64 + 1 - (nI (cnt P A B P)).toInt64) (nI P) 2 ((nI P).toInt64 + 1 - (nI (cnt P A B P)).toInt64) (nI P).toInt64
      rw [eo]; simp only [Option.bind_some]
      exact finL _ _ _ hL
theorem tor25 {N : Nat} (hN : 2 ^ 64 ≤ N) {P : Nat} (h1 : 1 ≤ P) (hP : P ≤ 10007) {M : Nat} (hM : M ≤ 10298) (t f : Nat → Int32) (a x : Int32) : ∃ o, mi_run (mX6_torsion_b25 N (nI M) t (nI P) a f x) N (0, 0) = some o := by
  obtain ⟨o, ho, -⟩ := mi_run_ok (mX6_torsion_b25 N (nI M) t (nI P) a f x) (fun s => ∃ k, k ≤ M ∧ s.2 = nI k) (fun _ => True) (fun s => M + 1 - s.2.toNatClampNeg) (by
    rintro ⟨y, w⟩ ⟨k, hk, e⟩
    have e : w = nI k := e
    subst e
    dsimp only [mX6_torsion_b25]
    by_cases c : M ≤ k
    · right; rw [if_pos (nI_le c (by omega))]; exact ⟨_, rfl, trivial⟩
    · left
      rw [if_neg (nI_ge (by omega) (by omega)), if_neg (ix_nI (k := k) (n := 10300) (by omega) (by omega))]
      have hmu : M + 1 - (nI (k + 1)).toNatClampNeg < M + 1 - (nI k).toNatClampNeg := by rw [nI_clamp (by omega), nI_clamp (by omega)]; omega
      simp only [multE hN h1 hP, Option.bind_some, mi_let, nI_1]
      repeat' split
      all_goals exact ⟨_, rfl, ⟨k + 1, by omega, rfl⟩, hmu⟩) N (0, 0) ⟨0, by omega, rfl⟩ (by show M + 1 - _ < N; omega)
  exact ⟨o, ho⟩
theorem hal28 {N : Nat} (hN : 2 ^ 64 ≤ N) {P : Nat} (h1 : 1 ≤ P) (hP : P ≤ 10007) {M : Nat} (hM : M ≤ 10298) (t f : Nat → Int32) (a x : Int32) : ∃ o, mi_run (mX6_halves_b28 N (nI M) t (nI P) a f x) N (0, 0) = some o := by
  obtain ⟨o, ho, -⟩ := mi_run_ok (mX6_halves_b28 N (nI M) t (nI P) a f x) (fun s => ∃ k, k ≤ M ∧ s.2 = nI k) (fun _ => True) (fun s => M + 1 - s.2.toNatClampNeg) (by
    rintro ⟨y, w⟩ ⟨k, hk, e⟩
    have e : w = nI k := e
    subst e
    dsimp only [mX6_halves_b28]
    by_cases c : M ≤ k
    · right; rw [if_pos (nI_le c (by omega))]; exact ⟨_, rfl, trivial⟩
    · left
      have hi := ix_nI (k := k) (n := 10300) (by omega) (by omega)
      rw [if_neg (nI_ge (by omega) (by omega))]
      have hmu : M + 1 - (nI (k + 1)).toNatClampNeg < M + 1 - (nI k).toNatClampNeg := by rw [nI_clamp (by omega), nI_clamp (by omega)]; omega
      simp only [sumE N h1 hP, Option.bind_some, mi_let, nI_1, if_neg hi]
      repeat' split
      all_goals exact ⟨_, rfl, ⟨k + 1, by omega, rfl⟩, hmu⟩) N (0, 0) ⟨0, by omega, rfl⟩ (by show M + 1 - _ < N; omega)
  exact ⟨o, ho⟩
theorem hal29 {N : Nat} (hN : 2 ^ 64 ≤ N) {P : Nat} (h1 : 1 ≤ P) (hP : P ≤ 10007) {M : Nat} (hM : M ≤ 10298) (t f g q : Nat → Int32) (a x b r i : Int32) : ∃ o, mi_run (mX6_half_b29 N (nI M) t (nI P) a f x b r g q) N (i, 0) = some o ∧ ∀ z, o = .inr z → ∃ y, z = (y, nI P, a, b, r, nI M, f, g, t, q) := by
  obtain ⟨o, ho, hq⟩ := mi_run_ok (mX6_half_b29 N (nI M) t (nI P) a f x b r g q) (fun s => ∃ k, k ≤ M ∧ s.2 = nI k) (fun o => ∀ z, o = .inr z → ∃ y, z = (y, nI P, a, b, r, nI M, f, g, t, q)) (fun s => M + 1 - s.2.toNatClampNeg) (by
    rintro ⟨y, w⟩ ⟨k, hk, e⟩
    have e : w = nI k := e
    subst e
    dsimp only [mX6_half_b29]
    by_cases c : M ≤ k
    · right; rw [if_pos (nI_le c (by omega))]; exact ⟨_, rfl, fun r hr => by cases hr⟩
    · have hi := ix_nI (k := k) (n := 10300) (by omega) (by omega)
      rw [if_neg (nI_ge (by omega) (by omega))]
      have hmu : M + 1 - (nI (k + 1)).toNatClampNeg < M + 1 - (nI k).toNatClampNeg := by rw [nI_clamp (by omega), nI_clamp (by omega)]; omega
      by_cases c2 : y < 0
      · right; rw [if_pos c2]; exact ⟨_, rfl, fun r hr => by cases hr⟩
      · rw [if_neg c2]
        simp only [sumE N h1 hP, Option.bind_some, mi_let, nI_1, if_neg hi]
        repeat' split
        · right; exact ⟨_, rfl, fun r hr => ⟨_, (Sum.inr.inj hr).symm⟩⟩
        all_goals (left; exact ⟨_, rfl, ⟨k + 1, by omega, rfl⟩, hmu⟩)) N (i, 0) ⟨0, by omega, rfl⟩ (by show M + 1 - _ < N; omega)
  exact ⟨o, ho, hq⟩
theorem T_torsion {N : Nat} (hN : 2 ^ 64 ≤ N) {cu : Int32} {ps as bs : Nat → Int32} (hS : ST cu ps as bs) {p a b rt pm : Int32} {f g pts ah : Nat → Int32} (hC : CUR p a b rt pm f g pts ah) (c : Int32) (x : Int32) : ∃ r p1 a1 b1 rt1 pm1 f1 g1 t1 q1, mX6_torsion N p a b rt pm cu f g pts ah ps as bs c x = some (r, p1, a1, b1, rt1, pm1, f1, g1, t1, q1) ∧ CUR p1 a1 b1 rt1 pm1 f1 g1 t1 q1 := by
  unfold mX6_torsion
  rcases has_spec N (by omega) hS hC c with e | ⟨P, A, B, pm', f', g', e, hCU, hix⟩
  · rw [e]; simp only [Option.bind_some]; rw [if_pos trivial]; exact ⟨_, _, _, _, _, _, _, _, _, _, rfl, hC⟩
  · have h1 := hCU.pos.1
    have hP := hCU.pos.2.1
    have fin : ∀ r0 : Int32, ∃ r p1 a1 b1 rt1 pm1 f1 g1 t1 q1, some (r0, nI P, nI A, nI B, nI P, pm', f', g', pts, ah) = some (r, p1, a1, b1, rt1, pm1, f1, g1, t1, q1) ∧ CUR p1 a1 b1 rt1 pm1 f1 g1 t1 q1 := fun r0 => ⟨_, _, _, _, _, _, _, _, _, _, rfl, Or.inr ⟨P, A, B, hCU⟩⟩
    have finL : ∀ (r0 : Int32) (t0 q0 : Nat → Int32), LK P A B P t0 q0 → ∃ r p1 a1 b1 rt1 pm1 f1 g1 t1 q1, some (r0, nI P, nI A, nI B, nI P, nI (cnt P A B P), f', g', t0, q0) = some (r, p1, a1, b1, rt1, pm1, f1, g1, t1, q1) ∧ CUR p1 a1 b1 rt1 pm1 f1 g1 t1 q1 := fun r0 t0 q0 hL => ⟨_, _, _, _, _, _, _, _, _, _, rfl, Or.inr ⟨P, A, B, hCU.listed hL⟩⟩
    have hcnt := cnt_b hCU
    rw [e]; simp only [Option.bind_some]; rw [if_neg (by decide)]
    by_cases k : 1 ≤ x
    · rw [if_pos k]
      obtain ⟨t, q, el, hCL, hL⟩ := listE N (by omega) hCU
      rw [el]; simp only [Option.bind_some]
      obtain ⟨o, eo⟩ := tor25 hN h1 hP hcnt.2 t f' (nI A) x
      rw [eo]; simp only [Option.bind_some]
      exact finL _ _ _ hL
    · rw [if_neg k]; exact fin _
theorem T_halves {N : Nat} (hN : 2 ^ 64 ≤ N) {cu : Int32} {ps as bs : Nat → Int32} (hS : ST cu ps as bs) {p a b rt pm : Int32} {f g pts ah : Nat → Int32} (hC : CUR p a b rt pm f g pts ah) (c : Int32) (x : Int32) : ∃ r p1 a1 b1 rt1 pm1 f1 g1 t1 q1, mX6_halves N p a b rt pm cu f g pts ah ps as bs c x = some (r, p1, a1, b1, rt1, pm1, f1, g1, t1, q1) ∧ CUR p1 a1 b1 rt1 pm1 f1 g1 t1 q1 := by
  unfold mX6_halves
  rcases has_spec N (by omega) hS hC c with e | ⟨P, A, B, pm', f', g', e, hCU, hix⟩
  · rw [e]; simp only [Option.bind_some]; rw [if_pos trivial]; exact ⟨_, _, _, _, _, _, _, _, _, _, rfl, hC⟩
  · have h1 := hCU.pos.1
    have hP := hCU.pos.2.1
    have fin : ∀ r0 : Int32, ∃ r p1 a1 b1 rt1 pm1 f1 g1 t1 q1, some (r0, nI P, nI A, nI B, nI P, pm', f', g', pts, ah) = some (r, p1, a1, b1, rt1, pm1, f1, g1, t1, q1) ∧ CUR p1 a1 b1 rt1 pm1 f1 g1 t1 q1 := fun r0 => ⟨_, _, _, _, _, _, _, _, _, _, rfl, Or.inr ⟨P, A, B, hCU⟩⟩
    have finL : ∀ (r0 : Int32) (t0 q0 : Nat → Int32), LK P A B P t0 q0 → ∃ r p1 a1 b1 rt1 pm1 f1 g1 t1 q1, some (r0, nI P, nI A, nI B, nI P, nI (cnt P A B P), f', g', t0, q0) = some (r, p1, a1, b1, rt1, pm1, f1, g1, t1, q1) ∧ CUR p1 a1 b1 rt1 pm1 f1 g1 t1 q1 := fun r0 t0 q0 hL => ⟨_, _, _, _, _, _, _, _, _, _, rfl, Or.inr ⟨P, A, B, hCU.listed hL⟩⟩
    have hcnt := cnt_b hCU
    rw [e]; simp only [Option.bind_some]; rw [if_neg (by decide)]
    rw [isPE N h1 hP]; simp only [Option.bind_some]
    split
    · exact fin _
    · obtain ⟨t, q, el, hCL, hL⟩ := listE N (by omega) hCU
      rw [el]; simp only [Option.bind_some]
      obtain ⟨o, eo⟩ := hal28 hN h1 hP hcnt.2 t f' (nI A) x
      rw [eo]; simp only [Option.bind_some]
      exact finL _ _ _ hL
theorem T_half {N : Nat} (hN : 2 ^ 64 ≤ N) {cu : Int32} {ps as bs : Nat → Int32} (hS : ST cu ps as bs) {p a b rt pm : Int32} {f g pts ah : Nat → Int32} (hC : CUR p a b rt pm f g pts ah) (c : Int32) (x : Int32) (i : Int32) : ∃ r p1 a1 b1 rt1 pm1 f1 g1 t1 q1, mX6_half N p a b rt pm cu f g pts ah ps as bs c x i = some (r, p1, a1, b1, rt1, pm1, f1, g1, t1, q1) ∧ CUR p1 a1 b1 rt1 pm1 f1 g1 t1 q1 := by
  unfold mX6_half
  rcases has_spec N (by omega) hS hC c with e | ⟨P, A, B, pm', f', g', e, hCU, hix⟩
  · rw [e]; simp only [Option.bind_some]; rw [if_pos trivial]; exact ⟨_, _, _, _, _, _, _, _, _, _, rfl, hC⟩
  · have h1 := hCU.pos.1
    have hP := hCU.pos.2.1
    have fin : ∀ r0 : Int32, ∃ r p1 a1 b1 rt1 pm1 f1 g1 t1 q1, some (r0, nI P, nI A, nI B, nI P, pm', f', g', pts, ah) = some (r, p1, a1, b1, rt1, pm1, f1, g1, t1, q1) ∧ CUR p1 a1 b1 rt1 pm1 f1 g1 t1 q1 := fun r0 => ⟨_, _, _, _, _, _, _, _, _, _, rfl, Or.inr ⟨P, A, B, hCU⟩⟩
    have finL : ∀ (r0 : Int32) (t0 q0 : Nat → Int32), LK P A B P t0 q0 → ∃ r p1 a1 b1 rt1 pm1 f1 g1 t1 q1, some (r0, nI P, nI A, nI B, nI P, nI (cnt P A B P), f', g', t0, q0) = some (r, p1, a1, b1, rt1, pm1, f1, g1, t1, q1) ∧ CUR p1 a1 b1 rt1 pm1 f1 g1 t1 q1 := fun r0 t0 q0 hL => ⟨_, _, _, _, _, _, _, _, _, _, rfl, Or.inr ⟨P, A, B, hCU.listed hL⟩⟩
    have hcnt := cnt_b hCU
    rw [e]; simp only [Option.bind_some]; rw [if_neg (by decide)]
    rw [isPE N h1 hP]; simp only [Option.bind_some]
    split
    · exact fin _
    · obtain ⟨t, q, el, hCL, hL⟩ := listE N (by omega) hCU
      rw [el]; simp only [Option.bind_some]
      obtain ⟨o, eo, hq⟩ := hal29 hN h1 hP hcnt.2 t f' g' q (nI A) x (nI B) (nI P) i
      rw [eo]; simp only [Option.bind_some]
      rcases o with y | z
      · exact finL _ _ _ hL
      · obtain ⟨w, hw⟩ := hq z rfl
        subst hw; exact finL _ _ _ hL
