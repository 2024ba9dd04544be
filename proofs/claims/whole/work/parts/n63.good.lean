theorem rng {x : Int32} {n : Nat} (n1 : 1 ≤ n) (hn : n ≤ 10300) : (∃ X, x = nI X ∧ 0 < X ∧ X < n ∧ inF x.toInt64 1 ((nI n - 1).toInt64) = 1) ∨ ((x < 1 ∨ (¬ x < 1 ∧ nI n ≤ x)) ∧ inF x.toInt64 1 ((nI n - 1).toInt64) = 0) := by
  have s1 := sub1_toInt (n := n) n1 (by omega)
  have i1 : (1 : Int64).toInt = 1 := by decide
  by_cases k : inF x.toInt64 1 ((nI n - 1).toInt64) = 0
  · right
    refine ⟨?_, k⟩
    rw [in_ix, s1, i1] at k
    by_cases c : x < 1
    · exact Or.inl c
    · refine Or.inr ⟨c, ?_⟩
      have := Int32.le_iff_toInt_le.mp (Int32.not_lt.mp c)
      rw [show (1 : Int32).toInt = 1 by decide] at this
      exact Int32.le_iff_toInt_le.mpr (by rw [nI_toInt (by omega)]; omega)
  · left
    have kk : inF x.toInt64 1 ((nI n - 1).toInt64) = 1 := by
      unfold inF at k ⊢
      split
      · rfl
      · rename_i w; rw [if_neg w] at k; exact absurd rfl k
    rw [in_ix, s1, i1] at k
    have w := Classical.not_not.mp k
    exact ⟨x.toInt.toNat, i32_toNat (by omega), by omega, by omega, kk⟩
theorem prO {N : Nat} (hN : 2 ^ 64 ≤ N) {F : Type} [mFld F] {P A B : Nat} {φ : Int → F} (hc : CX F P A B φ) {pr : Int32} {gl : Nat → Int32} (ht : tabC pr gl) {q : Int32} (hq : q = 0 ∨ q = nI (cnt P A B P)) (cb : 0 < cnt P A B P ∧ cnt P A B P ≤ 10298) {u : Int32} (k : isPt P A B u) (ek : mX0_holds N (nI P) (nI A) (nI B) u = some 1) : ∃ (U : EP (φ A) (φ B)) (o : Nat) (pr1 : Int32) (gl1 : Nat → Int32), pe P φ u U.1 ∧ isOrd (gO hc) ez o U ∧ 1 ≤ o ∧ o ≤ 10298 ∧ tabC pr1 gl1 ∧ ((prm o ∧ mX6_isPrime N (nI o) = some 1 ∧ mX5_primeOrder_s N pr gl (nI P) (nI A) (nI B) q u = some (nI o, pr1, gl1, nI (cnt P A B P))) ∨ (¬ prm o ∧ mX6_isPrime N (nI o) = some 0 ∧ mX5_primeOrder_s N pr gl (nI P) (nI A) (nI B) q u = some (0, pr1, gl1, nI (cnt P A B P)))) := by
  have hc0 := hc
  obtain ⟨-, hp, h5, hP, hA, hB, -⟩ := hc0
  obtain ⟨pr1, gl1, e, t⟩ := sizeC (N := N) (by omega) h5 hP hA hB ht hq
  obtain ⟨U, hu⟩ := isPt_pe hc k
  obtain ⟨o, ho, od, eo⟩ := owC hc hN hu (n := cnt P A B P) cb.1 (by omega) (cx_lagr hc U)
  have ol := Nat.le_of_dvd cb.1 od
  refine ⟨U, o, pr1, gl1, hu, ho, ho.1, by omega, t, ?_⟩
  unfold mX5_primeOrder_s
  rw [ek]; simp only [Option.bind_some]; rw [if_neg (show ¬ (1 : Int32) = 0 by decide), e]; simp only [Option.bind_some]; rw [eo]; simp only [Option.bind_some]
  rcases prime2 hN ho.1 (show o ≤ 10300 by omega) with ⟨p1, p2, p3⟩ | ⟨p1, p2, p3⟩
  · left
    rw [p2]; simp only [Option.bind_some]; rw [if_neg (show ¬ (1 : Int32) = 0 by decide)]
    exact ⟨p1, p3, rfl⟩
  · right
    rw [p2]
    exact ⟨p1, p3, rfl⟩
