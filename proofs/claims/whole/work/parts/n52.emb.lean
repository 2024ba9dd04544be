theorem emR {N : Nat} (hN : 2 ^ 64 ≤ N) {n P : Nat} (n2 : 2 ≤ n) (hn : n ≤ 20000) (hP : P ≤ 10007) (u3 u4 u5 u6 : Int32) (f g : Nat → Int32) : ∃ o, mi_run (mX6_embedding_b30 N (nI n) (nI P) u3 u4 u5 u6 f g) N (1, 1) = some o ∧ (match o with | .inl _ => isEm n P (-1) | .inr y => ∃ w, y = (w, nI P, u3, u4, u5, u6, f, g) ∧ isEm n P w) := by
  refine mi_run_ok (mX6_embedding_b30 N (nI n) (nI P) u3 u4 u5 u6 f g) (fun s => ∃ k, 1 ≤ k ∧ k ≤ n + 1 ∧ s.2 = nI k ∧ s.1 = nI (P ^ (k - 1) % n) ∧ ∀ j, 1 ≤ j → j < k → ¬ P ^ j % n = 1) _ (fun s => 30000 - s.2.toNatClampNeg) ?_ N (1, 1) ⟨1, by omega, by omega, rfl, by show (1 : Int32) = nI _; rw [Nat.sub_self, Nat.pow_zero, Nat.mod_eq_of_lt n2]; rfl, fun j j1 j2 => by omega⟩ (by show 30000 - _ < N; omega)
  rintro ⟨x3, x4⟩ ⟨k, a1, a2, e1, e2, no⟩
  have e1' : x4 = nI k := e1
  have e2' : x3 = nI (P ^ (k - 1) % n) := e2
  subst e1' e2'
  have ml : P ^ (k - 1) % n < n := Nat.mod_lt _ (by omega)
  dsimp only [mX6_embedding_b30, mi_let]
  by_cases c : n < k
  · right
    rw [if_pos (nI_lt c (by omega))]
    refine ⟨_, rfl, Or.inl ⟨rfl, fun k' k1' e => ?_⟩⟩
    by_cases cp : Nat.Coprime P n
    · obtain ⟨k0, q1, q2, q3⟩ := em_ex n2 cp
      exact no k0 q1 (by omega) q3
    · refine cp (Nat.Coprime.symm ?_)
      have d1 : Nat.gcd n P ∣ P ^ k' := Nat.dvd_trans (Nat.gcd_dvd_right n P) (by
        obtain ⟨j, rfl⟩ : ∃ j, k' = j + 1 := ⟨k' - 1, by omega⟩
        rw [Nat.pow_succ]; exact Nat.dvd_mul_left _ _)
      have d2 : Nat.gcd n P ∣ n * (P ^ k' / n) := Nat.dvd_trans (Nat.gcd_dvd_left n P) (Nat.dvd_mul_right _ _)
      have := Nat.div_add_mod (P ^ k') n
      rw [e] at this
      have d3 : Nat.gcd n P ∣ 1 := (Nat.dvd_add_right d2).mp (by rw [this]; exact d1)
      exact Nat.dvd_one.mp d3
  · have hz : ¬ (nI n).toInt64 = 0 := by
      rw [nI_l (by omega)]; intro h
      have := (lN_eq (a := n) (b := 0) (by omega) (by omega)).mp h
      omega
    have mm : P ^ (k - 1) % n * P < 2 ^ 31 := by
      have : P ^ (k - 1) % n * P ≤ 20000 * 10007 := Nat.mul_le_mul (by omega) hP
      omega
    have step : (mi_lrem ((nI (P ^ (k - 1) % n)).toInt64 * (nI P).toInt64) (nI n).toInt64).toInt32 = nI (P ^ k % n) := by
      rw [nI_l (by omega), nI_l (by omega), nI_l (by omega), lN_mul]
      unfold mi_lrem
      rw [pk_lRem (by omega) (by omega) (by omega), lN_i, Nat.mod_mul_mod, ← Nat.pow_succ]
      congr 3; omega
    have ml2 : P ^ k % n < n := Nat.mod_lt _ (by omega)
    rw [if_neg (nI_nlt (by omega) (by omega)), if_neg hz, step]
    by_cases z : P ^ k % n = 1
    · right
      rw [if_pos (show nI (P ^ k % n) = 1 by rw [z]; rfl)]
      exact ⟨_, rfl, _, rfl, Or.inr ⟨k, a1, by omega, rfl, z, no⟩⟩
    · left
      rw [if_neg (show ¬ nI (P ^ k % n) = 1 from fun w => z ((nI_eq (b := 1) (by omega) (by omega)).mp w))]
      refine ⟨_, rfl, ⟨k + 1, by omega, by omega, nI_1 k, rfl, fun j j1 jk => ?_⟩, ?_⟩
      · by_cases w : j = k
        · rw [w]; exact z
        · exact no j j1 (by omega)
      · show 30000 - (nI k + 1).toNatClampNeg < 30000 - (nI k).toNatClampNeg
        rw [nI_1, nI_clamp (by omega), nI_clamp (by omega)]; omega
theorem V_embedding {N : Nat} (hN : 2 ^ 64 ≤ N) {P A B : Nat} {p a b rt pm cu : Int32} {f g pts ah ps as bs : Nat → Int32} {c : Int32} {pm1 : Int32} {f1 g1 : Nat → Int32} (hh : mX6_has N p a b rt pm cu f g ps as bs c = some (1, nI P, nI A, nI B, nI P, pm1, f1, g1)) (hU : CU P A B (nI P) (nI A) (nI B) (nI P) pm1 f1 g1 pts ah) (x : Int32) : ∃ r, mX5_embedding_s N (nI P) c x = some r ∧ mX6_embedding N p a b rt pm cu f g ps as bs c x = some (r, nI P, nI A, nI B, nI P, pm1, f1, g1) := by
  obtain ⟨h1, hP, h5, hp, hA, hB⟩ := hU.pos
  unfold mX5_embedding_s mX6_embedding
  rw [hh]; simp only [Option.bind_some]; rw [if_neg (show ¬ (1 : Int32) = 0 by decide)]
  rw [inE]; simp only [Option.bind_some]
  have i0 : (2 : Int64).toInt = 2 := by decide
  have i1 : (20000 : Int64).toInt = 20000 := by decide
  by_cases k : inF x.toInt64 2 20000 = 0
  · rw [if_pos k]
    rw [in_ix, i1, i0] at k
    by_cases k1 : x < 2
    · rw [if_pos k1]; exact ⟨_, rfl, rfl⟩
    · rw [if_neg k1, if_neg (fun w => k ⟨?_, ?_⟩)]
      · exact ⟨_, rfl, rfl⟩
      · have := Int32.le_iff_toInt_le.mp (Int32.not_lt.mp k1); exact this
      · have := Int32.le_iff_toInt_le.mp w; exact this
  · rw [if_neg k]
    obtain ⟨n, n2, hn, rfl⟩ := in_nat (lo := 2) (hi := 20000) (by decide) (by decide) k
    obtain ⟨w, e, q⟩ := emC hN (p := P) n2 hn
    obtain ⟨o, eo, ho⟩ := emR hN n2 hn hP (nI A) (nI B) (nI P) pm1 f1 g1
    rw [if_neg (show ¬ nI n < 2 from nI_nlt (b := 2) n2 (by omega)), if_pos (show nI n ≤ 20000 from nI_le (b := 20000) hn (by omega)), if_neg (nI_ne0 (by omega) (by omega)), rem_nI (by omega) (by omega) (by omega)]; dsimp only [mi_let]
    rw [e, eo]; simp only [Option.bind_some]
    rcases o with ⟨y1, y2⟩ | y
    · have := isEm_un q ho
      subst this
      exact ⟨_, rfl, rfl⟩
    · obtain ⟨w', e', q'⟩ := ho
      have := isEm_un q q'
      subst this e'
      exact ⟨_, rfl, rfl⟩
