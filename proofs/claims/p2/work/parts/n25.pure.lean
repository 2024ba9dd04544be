theorem l1_at (N : Nat) (c : Int32) : mX5_at N 0 (fun _ => none) c = some none := by
  unfold mX5_at
  by_cases h : c < 0
  · rw [if_pos h]
  · rw [if_neg h, if_pos (Int32.not_lt.mp h)]
theorem l1_in (N : Nat) (c : Int32) : mX6_in N c.toInt64 0 (((0 : Int32) - 1).toInt64) = some 0 := by
  dsimp only [mX6_in, mi_let]
  by_cases h : lg_cmp c.toInt64 0 < 0
  · rw [if_pos h]
  · have h1 : (0 : Int64) ≤ c.toInt64 := by
      rcases Int64.lt_or_le c.toInt64 0 with q | q
      · exact absurd ((lg_cmp_lt _ _).mpr q) h
      · exact q
    have h2 : ((0 : Int32) - 1).toInt64 < c.toInt64 := by
      have h3 : ((0 : Int32) - 1).toInt64 < 0 := by decide
      exact Int64.lt_of_lt_of_le h3 h1
    rw [if_neg h, if_pos ((lg_cmp_gt _ _).mpr h2)]
theorem l1_t_X5_init (N : Nat) (_ : 20000 ≤ N) : ∃ z, mX5_init N = some z := ⟨_, rfl⟩
theorem l1_t_X6_init (N : Nat) (_ : 20000 ≤ N) : ∃ z, mX6_init N = some z := ⟨_, rfl⟩
theorem l1_t_X5_curves (N : Nat) (_ : 20000 ≤ N) : ∃ z, mX5_curves N 0 = some z := ⟨_, rfl⟩
theorem l1_t_X6_curves (N : Nat) (_ : 20000 ≤ N) : ∃ z, mX6_curves N 0 = some z := ⟨_, rfl⟩
theorem l1_eq_curves (N : Nat) (_ : 20000 ≤ N) {r t : Int32} (h1 : mX5_curves N 0 = some r) (h2 : mX6_curves N 0 = some t) : r = t := (Option.some.inj h1).symm.trans (Option.some.inj h2)
theorem l1_t_X6_drop (N : Nat) (_ : 20000 ≤ N) : ∃ z, mX6_drop N 0 = some z := ⟨_, rfl⟩
theorem l1_eq_drop (N : Nat) (_ : 20000 ≤ N) {r t u : Int32} (h1 : some (-1) = some r) (h2 : mX6_drop N 0 = some (t, u)) : r = t := by
  have h3 : ((-1 : Int32), (0 : Int32)) = (t, u) := Option.some.inj (show some ((-1 : Int32), (0 : Int32)) = some (t, u) from h2)
  rw [← Option.some.inj h1, (Prod.mk.inj h3).1]
