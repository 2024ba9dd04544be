theorem takeM_spec (N : Nat) (hN : 20000 ≤ N) (P : Nat) (h5 : 5 ≤ P) (hP : P ≤ 10007) (ta tb rt pm a b : Int32) (f g : Nat → Int32) (ht : tabM rt f g) : ∃ pm' f' g', mX6_take N ta tb rt pm f g (nI P) a b = some (nI P, a, b, nI P, pm', f', g') ∧ invTab P f' P ∧ rootTab P g' := by
  obtain ⟨pm', f', g', e, h1, h2⟩ := takeP_spec N hN P h5 hP rt pm f g ht
  unfold mX6_take
  rw [e]
  by_cases ha : ta = a
  · by_cases hb : tb = b
    · exact ⟨pm', f', g', by show (if ta = a then (if tb = b then _ else _) else _) = _; rw [if_pos ha, if_pos hb], h1, h2⟩
    · exact ⟨0, f', g', by show (if ta = a then (if tb = b then _ else _) else _) = _; rw [if_pos ha, if_neg hb], h1, h2⟩
  · exact ⟨0, f', g', by show (if ta = a then (if tb = b then _ else _) else _) = _; rw [if_neg ha], h1, h2⟩
/-- curve on fresh objects: both answer, and alike -/
theorem l1_curve (N : Nat) (hN : 20000 ≤ N) (p a b : Int32) : ∃ zx r x, mX5_curve N 0 p a b = some zx ∧ mX6_curve N 0 0 0 0 0 0 (fun _ => 0) (fun _ => 0) (fun _ => 0) (fun _ => 0) (fun _ => 0) (fun _ => 0) p a b = some (r, x) ∧ (match zx with | .inl y => y.1 = r | .inr y => y.1 = r) := by
  unfold mX5_curve mX6_curve
  rcases fpC_spec N hN p with ⟨P, hF, eC⟩ | ⟨hn, eC⟩
  · rcases fpM_spec N hN p with ⟨P', hF', eM⟩ | ⟨hn', eM⟩
    · obtain ⟨e, h5, hP, hpr⟩ := hF
      subst e
      have h1 : 1 ≤ P := by omega
      rw [eC, eM]
      dsimp only [Option.bind]
      rw [if_neg (by decide), if_neg (by decide)]
      rcases belowC N a P hP with ⟨A, hA, e1⟩ | ⟨hn1, e1⟩
      · rcases belowM N a P h1 hP with ⟨A', hA', e2⟩ | ⟨hn2, e2⟩
        · rw [e1, e2]
          dsimp only
          rw [if_neg (by decide), if_neg (by decide)]
          rcases belowC N b P hP with ⟨B, hB, e3⟩ | ⟨hn3, e3⟩
          · rcases belowM N b P h1 hP with ⟨B', hB', e4⟩ | ⟨hn4, e4⟩
            · rw [e3, e4]
              dsimp only
              rw [if_neg (by decide), if_neg (by decide)]
              obtain ⟨rfl, hAP⟩ := hA
              obtain ⟨rfl, hBP⟩ := hB
              obtain ⟨pm', f', g', e5, -, -⟩ := takeM_spec N hN P h5 hP 0 0 0 0 (nI A) (nI B) (fun _ => 0) (fun _ => 0) (Or.inl rfl)
              rw [cubC N P A B h1 hP hAP hBP, e5]
              dsimp only
              rw [splitM N P A B h1 hP hAP hBP]
              dsimp only
              by_cases hd : nI (disc P A B) = 0
              · rw [if_pos hd, if_pos hd]
                exact ⟨_, _, _, rfl, rfl, rfl⟩
              · rw [if_neg hd, if_neg hd]
                exact ⟨_, _, _, rfl, rfl, rfl⟩
            · exact absurd ⟨B, hB⟩ hn4
          · rcases belowM N b P h1 hP with ⟨B', hB', e4⟩ | ⟨hn4, e4⟩
            · exact absurd ⟨B', hB'⟩ hn3
            · rw [e3, e4]
              exact ⟨_, _, _, rfl, rfl, rfl⟩
        · exact absurd ⟨A, hA⟩ hn2
      · rcases belowM N a P h1 hP with ⟨A', hA', e2⟩ | ⟨hn2, e2⟩
        · exact absurd ⟨A', hA'⟩ hn1
        · rw [e1, e2]
          exact ⟨_, _, _, rfl, rfl, rfl⟩
    · exact absurd ⟨P, hF⟩ hn'
  · rcases fpM_spec N hN p with ⟨P', hF', eM⟩ | ⟨hn', eM⟩
    · exact absurd ⟨P', hF'⟩ hn
    · rw [eC, eM]
      exact ⟨_, _, _, rfl, rfl, rfl⟩
theorem l1_t_X5_curve (N : Nat) (hN : 20000 ≤ N) (p a b : Int32) : ∃ z, mX5_curve N 0 p a b = some z := by
  obtain ⟨zx, r, x, h, -, -⟩ := l1_curve N hN p a b
  exact ⟨zx, h⟩
theorem l1_t_X6_curve (N : Nat) (hN : 20000 ≤ N) (p a b : Int32) : ∃ z, mX6_curve N 0 0 0 0 0 0 (fun _ => 0) (fun _ => 0) (fun _ => 0) (fun _ => 0) (fun _ => 0) (fun _ => 0) p a b = some z := by
  obtain ⟨zx, r, x, -, h, -⟩ := l1_curve N hN p a b
  exact ⟨_, h⟩
theorem l1_eq_curve_l (N : Nat) (hN : 20000 ≤ N) {p a b r t u x0 x1 x2 x3 x4 x5 : Int32} {f0 f1 f2 f3 f4 f5 : Nat → Int32} (h1 : mX5_curve N 0 p a b = some (.inl (r, u))) (h2 : mX6_curve N 0 0 0 0 0 0 (fun _ => 0) (fun _ => 0) (fun _ => 0) (fun _ => 0) (fun _ => 0) (fun _ => 0) p a b = some (t, x0, x1, x2, x3, x4, x5, f0, f1, f2, f3, f4, f5)) : r = t := by
  obtain ⟨zx, q, x, e1, e2, e3⟩ := l1_curve N hN p a b
  have e4 := Option.some.inj (e1.symm.trans h1)
  have e5 := Option.some.inj (e2.symm.trans h2)
  subst e4
  have e6 : q = t := congrArg Prod.fst e5
  rw [← e6]
  exact e3
theorem l1_eq_curve_r (N : Nat) (hN : 20000 ≤ N) {p a b r t u v0 v1 v2 v3 v4 v5 v6 v7 v8 v9 v10 v11 x0 x1 x2 x3 x4 x5 : Int32} {f0 f1 f2 f3 f4 f5 : Nat → Int32} (h1 : mX5_curve N 0 p a b = some (.inr (r, u, v0, v1, v2, v3, v4, v5, v6, v7, v8, v9, v10, v11))) (h2 : mX6_curve N 0 0 0 0 0 0 (fun _ => 0) (fun _ => 0) (fun _ => 0) (fun _ => 0) (fun _ => 0) (fun _ => 0) p a b = some (t, x0, x1, x2, x3, x4, x5, f0, f1, f2, f3, f4, f5)) : r = t := by
  obtain ⟨zx, q, x, e1, e2, e3⟩ := l1_curve N hN p a b
  have e4 := Option.some.inj (e1.symm.trans h1)
  have e5 := Option.some.inj (e2.symm.trans h2)
  subst e4
  have e6 : q = t := congrArg Prod.fst e5
  rw [← e6]
  exact e3
