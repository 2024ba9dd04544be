/-! the bounds -/
theorem sq_un {P s t : Nat} (a : s * s ≤ 4 * P) (a' : 4 * P < (s + 1) * (s + 1)) (b : t * t ≤ 4 * P) (b' : 4 * P < (t + 1) * (t + 1)) : s = t := by
  rcases Nat.lt_trichotomy s t with q | q | q
  · have : (s + 1) * (s + 1) ≤ t * t := Nat.mul_le_mul q q
    omega
  · exact q
  · have : (t + 1) * (t + 1) ≤ s * s := Nat.mul_le_mul q q
    omega
theorem sq_300 {P t : Nat} (hP : P ≤ 10007) (a : t * t ≤ 4 * P) : t ≤ 300 := Nat.le_of_not_lt fun h => by
  have : 301 * 301 ≤ t * t := Nat.mul_le_mul h h
  omega
theorem reachC {N : Nat} (hN : 2 ^ 64 ≤ N) {P : Nat} (h5 : 5 ≤ P) (hP : P ≤ 10007) : ∃ t, mX4_reachOf N (nI P) = some (nI t) ∧ t * t ≤ 4 * P ∧ 4 * P < (t + 1) * (t + 1) := by
  obtain ⟨o, ho, q⟩ := mi_run_ok (mX4_reachOf_b2 N (nI P)) (fun s => ∃ k, s = nI k ∧ k * k ≤ 4 * P) (fun o => match o with | .inl y => ∃ t, y = nI t ∧ t * t ≤ 4 * P ∧ 4 * P < (t + 1) * (t + 1) | .inr _ => False) (fun s => 1000 - s.toNatClampNeg) (by
    rintro _ ⟨k, rfl, hk⟩
    have k3 := sq_300 hP hk
    dsimp only [mX4_reachOf_b2, mi_let]
    have kP : k < P := Nat.lt_of_not_le fun h => by
      have : P * k ≤ k * k := Nat.mul_le_mul_right k h
      have : 5 * P ≤ k * P := Nat.mul_le_mul_right P (by omega)
      rw [Nat.mul_comm] at this
      have : P * 5 ≤ P * k := Nat.mul_le_mul_left P (by omega)
      omega
    have k4 : (k + 1) * (k + 1) ≤ 301 * 301 := Nat.mul_le_mul (by omega) (by omega)
    rw [if_neg (nI_ge kP (by omega)), nI_1, pk_mul, show (4 : Int32) = nI 4 from rfl, pk_mul]
    by_cases c : (k + 1) * (k + 1) ≤ 4 * P
    · left
      rw [if_pos (nI_le c (by omega))]
      refine ⟨_, rfl, ⟨k + 1, rfl, c⟩, ?_⟩
      rw [nI_clamp (by omega), nI_clamp (by omega)]; omega
    · right
      rw [if_neg (nI_ge (by omega) (by omega))]
      exact ⟨_, rfl, k, rfl, hk, by omega⟩) N 0 ⟨0, rfl, by omega⟩ (by show 1000 - _ < N; omega)
  unfold mX4_reachOf
  rw [ho]
  rcases o with y | y
  · obtain ⟨t, e, q1, q2⟩ := q
    exact ⟨t, congrArg some e, q1, q2⟩
  · exact absurd q id
theorem leastR {N : Nat} (hN : 2 ^ 64 ≤ N) {P : Nat} (h5 : 5 ≤ P) (hP : P ≤ 10007) : ∃ t, mX6_least N (nI P) = some (nI (P + 1 - t)) ∧ t * t ≤ 4 * P ∧ 4 * P < (t + 1) * (t + 1) ∧ t ≤ P := by
  have tP : ∀ t, t * t ≤ 4 * P → t < P := fun k hk => Nat.lt_of_not_le fun h => by
    have : P * k ≤ k * k := Nat.mul_le_mul_right k h
    have : P * 5 ≤ P * k := Nat.mul_le_mul_left P (by omega)
    omega
  obtain ⟨o, ho, q⟩ := mi_run_ok (mX6_least_b7 N (nI P)) (fun s => ∃ t, s = nI (P + 1 - t) ∧ t * t ≤ 4 * P) (fun o => ∃ t, o = nI (P + 1 - t) ∧ t * t ≤ 4 * P ∧ 4 * P < (t + 1) * (t + 1)) (fun s => s.toNatClampNeg) (by
    rintro _ ⟨t, rfl, ht⟩
    have t3 := sq_300 hP ht
    have tp := tP t ht
    dsimp only [mX6_least_b7, mX6_isBound, mi_let]
    have hk1 : (nI (P + 1 - t) - 1).toInt = (P : Int) - t := by
      rw [Int32.toInt_sub, nI_toInt (by omega), show (1 : Int32).toInt = 1 by decide, Int.bmod_eq_of_le (by omega) (by omega)]; omega
    have hv : (((nI (P + 1 - t) - 1).toInt64 - (nI P).toInt64) - 1).toInt = -((t : Int) + 1) := by
      rw [Int64.toInt_sub, lg_i2l_sub, hk1, nI_toInt (by omega), show (1 : Int64).toInt = 1 by decide, Int.bmod_eq_of_le (by omega) (by omega)]; omega
    have hs : -((t : Int) + 1) * -((t : Int) + 1) = (((t + 1) * (t + 1) : Nat) : Int) := by push_cast; grind
    have t4 : (t + 1) * (t + 1) ≤ 301 * 301 := Nat.mul_le_mul (by omega) (by omega)
    have key : 0 < lg_cmp ((((nI (P + 1 - t) - 1).toInt64 - (nI P).toInt64) - 1) * (((nI (P + 1 - t) - 1).toInt64 - (nI P).toInt64) - 1)) (4 * (nI P).toInt64) ↔ 4 * P < (t + 1) * (t + 1) := by
      rw [lg_cmp_gt, Int64.lt_iff_toInt_lt, Int64.toInt_mul, Int64.toInt_mul, hv, nIl_toInt (by omega), show (4 : Int64).toInt = 4 by decide, hs, Int.bmod_eq_of_le (by omega) (by omega), Int.bmod_eq_of_le (by omega) (by omega)]; omega
    by_cases c : 4 * P < (t + 1) * (t + 1)
    · right
      rw [if_pos (key.mpr c)]; simp only [Option.bind_some]
      rw [if_pos trivial]; exact ⟨_, rfl, t, rfl, ht, c⟩
    · left
      rw [if_neg (fun w => c (key.mp w))]; simp only [Option.bind_some]
      rw [if_neg (by decide)]
      have tp1 := tP (t + 1) (by omega)
      obtain ⟨j, hj⟩ : ∃ j, P + 1 - t = j + 1 := ⟨P - t, by omega⟩
      rw [hj, pk_m1]
      refine ⟨_, rfl, ⟨t + 1, by congr 1; omega, by omega⟩, ?_⟩
      rw [nI_clamp (by omega), nI_clamp (by omega)]; omega) N (nI P + 1) ⟨0, by rw [nI_1]; rfl, by omega⟩ (by rw [nI_1, nI_clamp (by omega)]; omega)
  unfold mX6_least
  dsimp only [mi_let]
  rw [ho]
  obtain ⟨t, e, q1, q2⟩ := q
  exact ⟨t, congrArg some e, q1, q2, by have := tP t q1; omega⟩
theorem V_bound {N : Nat} (hN : 2 ^ 64 ≤ N) {P A B : Nat} {p a b rt pm cu : Int32} {f g pts ah ps as bs : Nat → Int32} {c : Int32} {pm1 : Int32} {f1 g1 : Nat → Int32} (hh : mX6_has N p a b rt pm cu f g ps as bs c = some (1, nI P, nI A, nI B, nI P, pm1, f1, g1)) (hU : CU P A B (nI P) (nI A) (nI B) (nI P) pm1 f1 g1 pts ah) (x : Int32) : ∃ r, mX5_bound_s N (nI P) c x = some r ∧ mX6_bound N p a b rt pm cu f g ps as bs c x = some (r, nI P, nI A, nI B, nI P, pm1, f1, g1) := by
  obtain ⟨h1, hP, h5, hp, hA, hB⟩ := hU.pos
  unfold mX5_bound_s mX6_bound
  rw [hh]; simp only [Option.bind_some]; rw [if_neg (show ¬ (1 : Int32) = 0 by decide)]
  rw [inE]; simp only [Option.bind_some]
  have i0 : (0 : Int64).toInt = 0 := by decide
  have i1 : (1 : Int64).toInt = 1 := by decide
  by_cases k : inF x.toInt64 0 1 = 0
  · rw [if_pos k]
    rw [in_ix, i1, i0] at k
    by_cases k1 : x < 0
    · rw [if_pos k1]; exact ⟨_, rfl, rfl⟩
    · rw [if_neg k1, if_neg (fun w => k ⟨?_, ?_⟩)]
      · exact ⟨_, rfl, rfl⟩
      · have := Int32.le_iff_toInt_le.mp (Int32.not_lt.mp k1); exact this
      · have := Int32.le_iff_toInt_le.mp w; exact this
  · rw [if_neg k]
    obtain ⟨n, -, hn2, rfl⟩ := in_nat (lo := 0) (hi := 1) (by decide) (by decide) k
    obtain ⟨t, e, t1, t2⟩ := reachC hN h5 hP
    obtain ⟨t', e', t1', t2', tp⟩ := leastR hN h5 hP
    have := sq_un t1 t2 t1' t2'
    subst this
    have t3 := sq_300 hP t1
    rw [if_neg (nI_pos (by omega)), if_pos (show nI n ≤ 1 from nI_le (b := 1) hn2 (by omega)), e, e']; simp only [Option.bind_some]
    have s1 : nI P + 1 - nI t = nI (P + 1 - t) := by
      rw [nI_1, nI_zI, nI_zI, nI_zI, zI_sub]; congr 1; omega
    have s2 : (2 : Int32) * nI P + 2 - nI (P + 1 - t) = nI P + 1 + nI t := by
      rw [show (2 : Int32) = nI 2 from rfl, pk_mul, nI_add, nI_1, nI_add, nI_zI, nI_zI, nI_zI, zI_sub]; congr 1; omega
    by_cases n0 : nI n = 0
    · rw [if_pos n0, if_pos n0, s1]; exact ⟨_, rfl, rfl⟩
    · rw [if_neg n0, if_neg n0, s2]; exact ⟨_, rfl, rfl⟩
