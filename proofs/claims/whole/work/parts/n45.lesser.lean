/-! the lesser point over x -/
theorem rt_cases {P : Nat} {g : Nat → Int32} (h : rootTab P g) {v : Nat} (hv : v < P) : (g v = -1 ∧ ∀ r, r < P → ¬ r * r % P = v) ∨ ∃ r, g v = nI r ∧ isR P v r := by
  rcases h v hv with q | ⟨r, e, a, b, c⟩
  · exact Or.inl q
  · exact Or.inr ⟨r, e, a, b, c⟩
theorem isR_un {P v r s : Nat} (h : isR P v r) (h' : isR P v s) : r = s := by
  rcases Nat.lt_trichotomy r s with q | q | q
  · exact absurd h.2.1 (h'.2.2 r q)
  · exact q
  · exact absurd h'.2.1 (h.2.2 s q)
theorem lesserC {N : Nat} (hN : 20000 ≤ N) {P A B x : Nat} (h5 : 5 ≤ P) (hP : P ≤ 10007) (hA : A < P) (hB : B < P) (hx : x < P) {pr : Int32} {gl : Nat → Int32} (ht : tabC pr gl) : ∃ g', tabC (nI P) g' ∧ ((∃ r, isR P (cub P A B x) r ∧ mX3_lesserAt N pr gl (nI P) (nI A) (nI B) (nI x) = some (nI (16384 * x + r), nI P, g')) ∨ ((∀ r, r < P → ¬ r * r % P = cub P A B x) ∧ mX3_lesserAt N pr gl (nI P) (nI A) (nI B) (nI x) = some (-1, nI P, g'))) := by
  have h1 : 1 ≤ P := by omega
  have hv := cub_lt P A B x h1
  obtain ⟨g', e, hg⟩ := leastRoot_spec N hN P h5 hP _ hv pr gl ht
  refine ⟨g', rt_C h5 hP hg, ?_⟩
  unfold mX3_lesserAt
  rw [cubicC N h1 hP hA hB hx]; simp only [Option.bind_some]; rw [e]; simp only [Option.bind_some]
  rcases rt_cases hg hv with ⟨e1, no⟩ | ⟨r, e1, hr⟩
  · right
    rw [e1, if_neg (by decide)]
    exact ⟨no, rfl⟩
  · left
    have := hr.1
    rw [e1, if_pos (nI_pos' (by omega)), pair_nI N (by omega) (by omega)]
    exact ⟨r, hr, rfl⟩
theorem in1 (N : Nat) (x : Int32) {P : Nat} (h1 : 1 ≤ P) (hP : P ≤ 10007) : (∃ X, x = nI X ∧ 0 < X ∧ X < P ∧ mX4_isBelow N x (nI P) = some 1 ∧ mX6_in N x.toInt64 1 ((nI P - 1).toInt64) = some 1) ∨ ((x = 0 ∨ mX4_isBelow N x (nI P) = some 0) ∧ mX6_in N x.toInt64 1 ((nI P - 1).toInt64) = some 0) := by
  have s1 := sub1_toInt (n := P) h1 (by omega)
  have i1 : (1 : Int64).toInt = 1 := by decide
  rw [inE]
  by_cases k : inF x.toInt64 1 ((nI P - 1).toInt64) = 0
  · right
    refine ⟨?_, by rw [k]⟩
    rw [in_ix, s1, i1] at k
    rcases belowC N x P hP with ⟨X, ⟨e, hX⟩, -⟩ | ⟨-, e⟩
    · left
      rw [e, nI_toInt (by omega)] at k
      rw [e, show X = 0 by omega]; rfl
    · exact Or.inr e
  · left
    have k' := k
    rw [in_ix, s1, i1] at k'
    have kk : inF x.toInt64 1 ((nI P - 1).toInt64) = 1 := by
      unfold inF at k ⊢
      split
      · rfl
      · rename_i w; rw [if_neg w] at k; exact absurd rfl k
    have w := Classical.not_not.mp k'
    refine ⟨x.toInt.toNat, i32_toNat (by omega), by omega, by omega, ?_, by rw [kk]⟩
    rcases belowC N x P hP with ⟨X, -, e⟩ | ⟨ne, -⟩
    · exact e
    · exact absurd ⟨x.toInt.toNat, i32_toNat (by omega), by omega⟩ ne
theorem V_mapped {N : Nat} (hN : 2 ^ 64 ≤ N) {P A B : Nat} {p a b rt pm cu : Int32} {f g pts ah ps as bs : Nat → Int32} {c : Int32} {pm1 : Int32} {f1 g1 : Nat → Int32} (hh : mX6_has N p a b rt pm cu f g ps as bs c = some (1, nI P, nI A, nI B, nI P, pm1, f1, g1)) (hU : CU P A B (nI P) (nI A) (nI B) (nI P) pm1 f1 g1 pts ah) (x u : Int32) : ∃ r, mX5_mapped_s N (nI P) (nI A) (nI B) c x u = some r ∧ mX6_mapped N p a b rt pm cu f g ps as bs c x u = some (r, nI P, nI A, nI B, nI P, pm1, f1, g1) := by
  obtain ⟨h1, hP, h5, hp, hA, hB⟩ := hU.pos
  unfold mX5_mapped_s mX6_mapped
  rw [hh]; simp only [Option.bind_some]; rw [if_neg (show ¬ (1 : Int32) = 0 by decide)]
  rcases in1 N x h1 hP with ⟨X, rfl, X0, hX, e1, e2⟩ | ⟨e1, e2⟩
  · rw [if_neg (nI_ne0 X0 (by omega)), e1, e2]; simp only [Option.bind_some]; rw [if_neg (show ¬ (1 : Int32) = 0 by decide), if_neg (show ¬ (1 : Int32) = 0 by decide)]
    rcases holds2 N h1 hP hA hB u with ⟨k, e1, e2⟩ | ⟨e1, e2⟩
    · rw [e1, e2]; simp only [Option.bind_some]; rw [if_neg (show ¬ (1 : Int32) = 0 by decide), if_neg (show ¬ (1 : Int32) = 0 by decide)]
      by_cases k0 : u = -1
      · rw [if_pos k0, if_pos k0, k0]; exact ⟨_, rfl, rfl⟩
      · rw [if_neg k0, if_neg k0]
        rcases k with k | ⟨y, z, hy, hz, rfl, -⟩
        · exact absurd k k0
        · have hp0 := nz_nI h1 hP
          rw [if_neg hp0]; dsimp only [mi_let]
          rw [if_neg hp0, (xOf_nI N (x := y) (y := z) (by omega) (by omega)).1]; simp only [Option.bind_some]
          rw [if_neg hp0, (xOf_nI N (x := y) (y := z) (by omega) (by omega)).2]; simp only [Option.bind_some]
          have m1 := mul_lt hX hX hP
          have l1 : X * X % P < P := Nat.mod_lt _ h1
          have m2 := mul_lt l1 hX hP
          have m2' := mul_lt hX l1 hP
          have l2 : X * X % P * X % P < P := Nat.mod_lt _ h1
          have m3 := mul_lt hy l1 hP
          have m4 := mul_lt hz l2 hP
          rw [if_neg hp0, (pt_split (x := y) (y := z) (by omega) (by omega)).1, (pt_split (x := y) (y := z) (by omega) (by omega)).2, mulM N P X X h1 hP (by omega) (by omega) (by omega)]; simp only [Option.bind_some]
          rw [mulM N P y _ h1 hP (by omega) (by omega) (by omega), mulM N P X (X * X % P) h1 hP (by omega) (by omega) (by omega)]; simp only [Option.bind_some]
          rw [Nat.mul_comm X (X * X % P), mulM N P z _ h1 hP (by omega) (by omega) (by omega), pk_mul, rem_nI (by omega) (by omega) (by omega), pk_mul, rem_nI (by omega) (by omega) (by omega), pk_mul, rem_nI (by omega) (by omega) (by omega), pk_mul, rem_nI (by omega) (by omega) (by omega)]
          have l3 : y * (X * X % P) % P < P := Nat.mod_lt _ h1
          have l4 : z * (X * X % P * X % P) % P < P := Nat.mod_lt _ h1
          simp only [Option.bind_some]
          rw [pair_nI N (by omega) (by omega), ptz hP l3 l4]
          exact ⟨_, rfl, rfl⟩
    · rw [e1, e2]; exact ⟨_, rfl, rfl⟩
  · rw [e2]; simp only [Option.bind_some]; rw [if_pos trivial]
    by_cases x0 : x = 0
    · rw [if_pos x0]; exact ⟨_, rfl, rfl⟩
    · rcases e1 with e1 | e1
      · exact absurd e1 x0
      · rw [if_neg x0, e1]; exact ⟨_, rfl, rfl⟩
