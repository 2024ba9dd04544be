theorem row_spec2 (N : Nat) (hN : 20000 ≤ N) (P : Nat) (h5 : 5 ≤ P) (hP : P ≤ 61) (n : Int32) (J : Bool) (a2 : Int32) (hJ : a2 = if J = true then 1 else 0) (A : Nat) (hA : A < P) (s0 : Nat × (Nat → Int32)) (hp : isp P) {pts ah : Nat → Int32} (p0 a0 b0 pm0 : Int32) (f0 g0 : Nat → Int32) (hf : invTab P f0 P) (hg : rootTab P g0) (hC : CUR p0 a0 b0 (nI P) pm0 f0 g0 pts ah) :
    ∃ o, mi_run (mX6_all_b67 N (nI P) (nI A) n a2) N (nI s0.1, 0, p0, a0, b0, nI P, pm0, f0, g0, s0.2) = some o ∧ o.1 = nI (rowF P n J A s0 P).1 ∧ o.2.2.2.2.2.2.2.2.2 = (rowF P n J A s0 P).2 ∧ o.2.2.2.2.2.1 = nI P ∧ invTab P o.2.2.2.2.2.2.2.1 P ∧ rootTab P o.2.2.2.2.2.2.2.2.1 ∧ CUR o.2.2.1 o.2.2.2.1 o.2.2.2.2.1 o.2.2.2.2.2.1 o.2.2.2.2.2.2.1 o.2.2.2.2.2.2.2.1 o.2.2.2.2.2.2.2.2.1 pts ah := by
  have h1 : 1 ≤ P := by omega
  have hP' : P ≤ 10007 := by omega
  refine mi_run_ok (mX6_all_b67 N (nI P) (nI A) n a2) (fun s => ∃ k, s.2.1 = nI k ∧ k ≤ P ∧ s.1 = nI (rowF P n J A s0 k).1 ∧ s.2.2.2.2.2.2.2.2.2 = (rowF P n J A s0 k).2 ∧ s.2.2.2.2.2.1 = nI P ∧ invTab P s.2.2.2.2.2.2.2.1 P ∧ rootTab P s.2.2.2.2.2.2.2.2.1 ∧ CUR s.2.2.1 s.2.2.2.1 s.2.2.2.2.1 s.2.2.2.2.2.1 s.2.2.2.2.2.2.1 s.2.2.2.2.2.2.2.1 s.2.2.2.2.2.2.2.2.1 pts ah) (fun o => o.1 = nI (rowF P n J A s0 P).1 ∧ o.2.2.2.2.2.2.2.2.2 = (rowF P n J A s0 P).2 ∧ o.2.2.2.2.2.1 = nI P ∧ invTab P o.2.2.2.2.2.2.2.1 P ∧ rootTab P o.2.2.2.2.2.2.2.2.1 ∧ CUR o.2.2.1 o.2.2.2.1 o.2.2.2.2.1 o.2.2.2.2.2.1 o.2.2.2.2.2.2.1 o.2.2.2.2.2.2.2.1 o.2.2.2.2.2.2.2.2.1 pts ah) (fun s => 15000 - s.2.1.toNatClampNeg) ?_ N (nI s0.1, 0, p0, a0, b0, nI P, pm0, f0, g0, s0.2) ⟨0, rfl, by omega, rfl, rfl, rfl, hf, hg, hC⟩ ?_
  · intro ⟨x41, x42, x43, x44, x45, x46, x47, x48, x49, x50⟩ ⟨k, e2, hk, e1, e10, e6, hf', hg', hC'⟩
    dsimp only at e2 e1 e10 e6 hf' hg' hC'
    subst e2
    subst e1
    subst e10
    subst e6
    dsimp only [mX6_all_b67, mi_let]
    rcases Nat.lt_or_ge k P with hlt | hge
    · left
      obtain ⟨pm', f', g', e, hU2⟩ := take_spec N hN hC' hp h5 hP' hA hlt
      have hf2 : invTab P f' P := hU2.2.2.2.2.2.2.2.2.2.1
      have hg2 : rootTab P g' := hU2.roots
      have hj := jN_lt P A k h1
      refine ⟨(nI (rowF P n J A s0 (k + 1)).1, nI (k + 1), nI P, nI A, nI k, nI P, pm', f', g', (rowF P n J A s0 (k + 1)).2), ?_, ⟨k + 1, rfl, by omega, rfl, rfl, rfl, hf2, hg2, Or.inr ⟨P, A, k, hU2⟩⟩, ?_⟩
      · rw [if_neg (nI_ge hlt (by omega)), e]
        dsimp only [Option.bind]
        rw [splitM N P A k h1 hP' hA hlt]
        dsimp only
        have eR : rowF P n J A s0 (k + 1) = stp P n J A k (rowF P n J A s0 k) := rfl
        rw [eR]
        unfold stp
        have hd : disc P A k < P := Nat.mod_lt _ h1
        by_cases hz : disc P A k = 0
        · rw [if_pos hz, if_pos (show nI (disc P A k) = 0 by rw [hz]; rfl), nI_1]
        · rw [if_neg hz, if_neg (nI_ne0 (Nat.pos_of_ne_zero hz) (by omega))]
          obtain ⟨o, eo, q⟩ := here_spec N hN P A k h1 hP' hA hlt g' hg2
          obtain ⟨y1, y2⟩ := o
          dsimp only at q
          subst q
          rw [eo]
          dsimp only
          by_cases hh : nI (cnt P A k P) = n
          · rw [if_pos hh, if_pos hh, jOfM N P A k h1 hP' hA hlt f' hf2]
            dsimp only
            cases J with
            | false =>
              rw [if_pos (show a2 = 0 from hJ), if_neg (ix_nI (by omega) (by omega)), nI_clamp (by omega), nI_1, nI_1, if_neg (fun q => absurd q.1 (by decide))]
              rfl
            | true =>
              rw [if_neg (show ¬ a2 = 0 by rw [hJ]; decide), if_neg (ix_nI (by omega) (by omega)), if_neg (ix_nI (by omega) (by omega)), if_neg (ix_nI (by omega) (by omega)), nI_clamp (by omega), nI_1, nI_1]
              by_cases hs : (rowF P n true A s0 k).2 (jN P A k) = 0
              · rw [if_pos hs, if_neg (fun q => q.2 hs)]
                rfl
              · rw [if_neg hs, if_pos ⟨rfl, hs⟩, Int32.add_zero, Nat.add_zero]
                rfl
          · rw [if_neg hh, if_neg hh, nI_1]
      · show 15000 - (nI (k + 1)).toNatClampNeg < 15000 - (nI k).toNatClampNeg
        rw [nI_clamp (by omega), nI_clamp (by omega)]
        omega
    · right
      have e : k = P := by omega
      subst e
      rw [if_pos (nI_le (Nat.le_refl _) (by omega))]
      exact ⟨_, rfl, rfl, rfl, rfl, hf', hg', hC'⟩
  · show 15000 - (nI 0).toNatClampNeg < N
    rw [nI_clamp (by omega)]
    omega
theorem outer_spec2 (N : Nat) (hN : 20000 ≤ N) (P : Nat) (h5 : 5 ≤ P) (hP : P ≤ 61) (n : Int32) (J : Bool) (a2 : Int32) (hJ : a2 = if J = true then 1 else 0) (S0 : Nat → Int32) (hp : isp P) {pts ah : Nat → Int32} (p0 a0 b0 pm0 : Int32) (f0 g0 : Nat → Int32) (hf : invTab P f0 P) (hg : rootTab P g0) (hC : CUR p0 a0 b0 (nI P) pm0 f0 g0 pts ah) :
    ∃ o, mi_run (mX6_all_b58 N (nI P) n a2) N (0, 0, p0, a0, b0, nI P, pm0, f0, g0, S0) = some o ∧ o.1 = nI (allF P n J (0, S0) P).1 ∧ CUR o.2.2.1 o.2.2.2.1 o.2.2.2.2.1 o.2.2.2.2.2.1 o.2.2.2.2.2.2.1 o.2.2.2.2.2.2.2.1 o.2.2.2.2.2.2.2.2.1 pts ah := by
  refine mi_run_ok (mX6_all_b58 N (nI P) n a2) (fun s => ∃ k, s.2.1 = nI k ∧ k ≤ P ∧ s.1 = nI (allF P n J (0, S0) k).1 ∧ s.2.2.2.2.2.2.2.2.2 = (allF P n J (0, S0) k).2 ∧ s.2.2.2.2.2.1 = nI P ∧ invTab P s.2.2.2.2.2.2.2.1 P ∧ rootTab P s.2.2.2.2.2.2.2.2.1 ∧ CUR s.2.2.1 s.2.2.2.1 s.2.2.2.2.1 s.2.2.2.2.2.1 s.2.2.2.2.2.2.1 s.2.2.2.2.2.2.2.1 s.2.2.2.2.2.2.2.2.1 pts ah) (fun o => o.1 = nI (allF P n J (0, S0) P).1 ∧ CUR o.2.2.1 o.2.2.2.1 o.2.2.2.2.1 o.2.2.2.2.2.1 o.2.2.2.2.2.2.1 o.2.2.2.2.2.2.2.1 o.2.2.2.2.2.2.2.2.1 pts ah) (fun s => 15000 - s.2.1.toNatClampNeg) ?_ N (0, 0, p0, a0, b0, nI P, pm0, f0, g0, S0) ⟨0, rfl, by omega, rfl, rfl, rfl, hf, hg, hC⟩ ?_
  · intro ⟨x41, x42, x43, x44, x45, x46, x47, x48, x49, x50⟩ ⟨k, e2, hk, e1, e10, e6, hf', hg', hC'⟩
    dsimp only at e2 e1 e10 e6 hf' hg' hC'
    subst e2
    subst e1
    subst e10
    subst e6
    dsimp only [mX6_all_b58, mi_let]
    rcases Nat.lt_or_ge k P with hlt | hge
    · left
      obtain ⟨o, eo, q1, q2, q3, q4, q5, q6⟩ := row_spec2 N hN P h5 hP n J a2 hJ k hlt (allF P n J (0, S0) k) hp x43 x44 x45 x47 x48 x49 hf' hg' hC'
      obtain ⟨o1, o2, o3, o4, o5, o6, o7, o8, o9, o10⟩ := o
      dsimp only at q1 q2 q3 q4 q5 q6
      subst q1
      subst q2
      subst q3
      refine ⟨(nI (allF P n J (0, S0) (k + 1)).1, nI (k + 1), o3, o4, o5, nI P, o7, o8, o9, (allF P n J (0, S0) (k + 1)).2), ?_, ⟨k + 1, rfl, by omega, rfl, rfl, rfl, q4, q5, q6⟩, ?_⟩
      · rw [if_neg (nI_ge hlt (by omega)), eo, ← nI_1]
        rfl
      · show 15000 - (nI (k + 1)).toNatClampNeg < 15000 - (nI k).toNatClampNeg
        rw [nI_clamp (by omega), nI_clamp (by omega)]
        omega
    · right
      have e : k = P := by omega
      subst e
      rw [if_pos (nI_le (Nat.le_refl _) (by omega))]
      exact ⟨_, rfl, rfl, hC'⟩
  · show 15000 - (nI 0).toNatClampNeg < N
    rw [nI_clamp (by omega)]
    omega
theorem allM_in2 (N : Nat) (hN : 20000 ≤ N) (P : Nat) (h5 : 5 ≤ P) (hP : P ≤ 61) (hp : isp P) (n : Int32) (J : Bool) (a2 : Int32) (hJ : a2 = if J = true then 1 else 0) {tp ta tb rt pm : Int32} {f g pts ah : Nat → Int32} (S : Nat → Int32) (hC : CUR tp ta tb rt pm f g pts ah) :
    ∃ S0 p1 a1 b1 rt1 pm1 f1 g1 S1, (∀ v, v < P → S0 v = 0) ∧ mX6_all N tp ta tb rt pm f g S (nI P) n a2 = some (nI (allF P n J (0, S0) P).1, p1, a1, b1, rt1, pm1, f1, g1, S1) ∧ CUR p1 a1 b1 rt1 pm1 f1 g1 pts ah := by
  obtain ⟨pm', f', g', e1, hf, hg, hpm⟩ := takeP2 N hN P h5 (by omega) rt pm f g hC.tab
  have hC2 : CUR (nI P) ta tb (nI P) pm' f' g' pts ah := by
    rcases hpm with z | ⟨z1, z2⟩
    · exact Or.inl ⟨z, Or.inr ⟨P, rfl, h5, by omega, hf, hg⟩⟩
    · rcases hC with ⟨z, -⟩ | ⟨P', A', B', c1, c2, c3, c4, c5, c6, c7, c8, c9, c10, c11, c12⟩
      · exact Or.inl ⟨z2.trans z, Or.inr ⟨P, rfl, h5, by omega, hf, hg⟩⟩
      · have : P' = P := (nI_eq (by omega) (by omega)).mp (c4.symm.trans z1)
        subst this
        exact Or.inr ⟨P', A', B', rfl, c2, c3, rfl, c5, c6, c7, c8, c9, hf, hg, by rw [z2]; exact c12⟩
  obtain ⟨⟨o1, o2⟩, e2, q2⟩ := seen_spec N hN P hP S
  obtain ⟨o, e3, q3, q4⟩ := outer_spec2 N hN P h5 hP n J a2 hJ o2 hp (nI P) ta tb pm' f' g' hf hg hC2
  obtain ⟨y1, y2, y3, y4, y5, y6, y7, y8, y9, y10⟩ := o
  dsimp only at q3 q4
  subst q3
  refine ⟨o2, y3, y4, y5, y6, y7, y8, y9, y10, q2, ?_, q4⟩
  unfold mX6_all
  rw [in_spec, if_pos]
  · rcases ispM_spec N hN P (by omega) (by omega) with ⟨-, e⟩ | ⟨h, -⟩
    · dsimp only [Option.bind]
      rw [if_neg (by decide), e]
      dsimp only
      rw [if_neg (by decide), e1]
      dsimp only
      rw [e2]
      dsimp only
      rw [e3]
    · exact absurd hp h
  · rw [Int64.le_iff_toInt_le, Int64.le_iff_toInt_le, Int32.toInt_toInt64, nI_toInt (by omega)]
    have e5 : (5 : Int64).toInt = 5 := by decide
    have eM : (61 : Int64).toInt = 61 := by decide
    rw [e5, eM]
    omega
theorem cenC2 (N : Nat) (hN : 20000 ≤ N) (p n pr : Int32) (g : Nat → Int32) (ht : tabC pr g) :
    (∃ P, isF p P ∧ P ≤ 61 ∧ (∃ pr' g', mX5_census N pr g p n = some (nI (censC P n), pr', g') ∧ tabC pr' g') ∧ (∃ pr' g', mX5_kinds N pr g p n = some (nI (kindC P n), pr', g') ∧ tabC pr' g')) ∨ ((¬ ∃ P, isF p P ∧ P ≤ 61) ∧ mX5_census N pr g p n = some (-2, pr, g) ∧ mX5_kinds N pr g p n = some (-2, pr, g)) := by
  rcases censusC_cases N hN p n pr g ht with ⟨P, hF, h61, -, -⟩ | h
  · left
    refine ⟨P, hF, h61, ?_, ?_⟩
    · obtain ⟨e0, h5, hP, hp⟩ := hF
      subst e0
      obtain ⟨pr', g', e, t⟩ := pairs_spec N hN P h5 hP n pr g ht
      refine ⟨pr', g', ?_, t⟩
      unfold mX5_census
      rw [if_neg (show ¬ 61 < nI P from nI_nlt (a := 61) h61 (by omega))]
      rcases fpC_spec N hN (nI P) with ⟨P', -, e'⟩ | ⟨hn, -⟩
      · rw [e']; simp only [Option.bind_some]; rw [if_neg (show ¬ (1 : Int32) = 0 by decide), e]; rfl
      · exact absurd ⟨P, rfl, h5, hP, hp⟩ hn
    · obtain ⟨e0, h5, hP, hp⟩ := hF
      subst e0
      obtain ⟨pr', g', e, t⟩ := kinds_spec N hN P h5 hP n pr g ht
      refine ⟨pr', g', ?_, t⟩
      unfold mX5_kinds
      rw [if_neg (show ¬ 61 < nI P from nI_nlt (a := 61) h61 (by omega))]
      rcases fpC_spec N hN (nI P) with ⟨P', -, e'⟩ | ⟨hn, -⟩
      · rw [e']; simp only [Option.bind_some]; rw [if_neg (show ¬ (1 : Int32) = 0 by decide), e]; rfl
      · exact absurd ⟨P, rfl, h5, hP, hp⟩ hn
  · exact Or.inr h
theorem V_census {N : Nat} (hN : 2 ^ 64 ≤ N) {pr : Int32} {gl : Nat → Int32} (ht : tabC pr gl) {p a b rt pm : Int32} {f g pts ah : Nat → Int32} (hC : CUR p a b rt pm f g pts ah) (S : Nat → Int32) (x n : Int32) : ∃ r pr1 gl1 p1 a1 b1 rt1 pm1 f1 g1 S1, mX5_census N pr gl x n = some (r, pr1, gl1) ∧ tabC pr1 gl1 ∧ mX6_census N p a b rt pm f g S x n = some (r, p1, a1, b1, rt1, pm1, f1, g1, S1) ∧ CUR p1 a1 b1 rt1 pm1 f1 g1 pts ah := by
  unfold mX6_census
  rcases cenC2 N (by omega) x n pr gl ht with ⟨P, hF, h61, ⟨pr1, gl1, e1, t1⟩, -⟩ | ⟨hn, e1, -⟩
  · obtain ⟨e, h5, hP, hp⟩ := hF
    subst e
    obtain ⟨S0, p1, a1, b1, rt1, pm1, f1, g1, S1, h0, e2, c2⟩ := allM_in2 N (by omega) P h5 h61 hp n false 0 rfl S hC
    rw [e2, (fin_prime P h5 h61 hp n S0 h0).1]
    exact ⟨_, _, _, _, _, _, _, _, _, _, _, e1, t1, rfl, c2⟩
  · rw [allM_out N (by omega) x n 0 hn]
    exact ⟨_, _, _, _, _, _, _, _, _, _, _, e1, ht, rfl, hC⟩
theorem V_kinds {N : Nat} (hN : 2 ^ 64 ≤ N) {pr : Int32} {gl : Nat → Int32} (ht : tabC pr gl) {p a b rt pm : Int32} {f g pts ah : Nat → Int32} (hC : CUR p a b rt pm f g pts ah) (S : Nat → Int32) (x n : Int32) : ∃ r pr1 gl1 p1 a1 b1 rt1 pm1 f1 g1 S1, mX5_kinds N pr gl x n = some (r, pr1, gl1) ∧ tabC pr1 gl1 ∧ mX6_kinds N p a b rt pm f g S x n = some (r, p1, a1, b1, rt1, pm1, f1, g1, S1) ∧ CUR p1 a1 b1 rt1 pm1 f1 g1 pts ah := by
  unfold mX6_kinds
  rcases cenC2 N (by omega) x n pr gl ht with ⟨P, hF, h61, -, ⟨pr1, gl1, e1, t1⟩⟩ | ⟨hn, -, e1⟩
  · obtain ⟨e, h5, hP, hp⟩ := hF
    subst e
    obtain ⟨S0, p1, a1, b1, rt1, pm1, f1, g1, S1, h0, e2, c2⟩ := allM_in2 N (by omega) P h5 h61 hp n true 1 rfl S hC
    rw [e2, (fin_prime P h5 h61 hp n S0 h0).2]
    exact ⟨_, _, _, _, _, _, _, _, _, _, _, e1, t1, rfl, c2⟩
  · rw [allM_out N (by omega) x n 1 hn]
    exact ⟨_, _, _, _, _, _, _, _, _, _, _, e1, ht, rfl, hC⟩
theorem V_curve {N : Nat} (hN : 2 ^ 64 ≤ N) {n : Nat} (n24 : n ≤ 24) {p a b rt pm : Int32} {f g pts ah : Nat → Int32} (hC : CUR p a b rt pm f g pts ah) (ps as bs fr : Nat → Int32) (x y z : Int32) : (∃ r p1 a1 b1 rt1 pm1 f1 g1, mX5_curve N (nI n) x y z = some (.inl (r, nI n)) ∧ mX6_curve N p a b rt pm (nI n) f g ps as bs fr x y z = some (r, p1, a1, b1, rt1, pm1, nI n, f1, g1, ps, as, bs, fr) ∧ CUR p1 a1 b1 rt1 pm1 f1 g1 pts ah) ∨ (n < 24 ∧ ∃ P A B p1 a1 b1 rt1 pm1 f1 g1, CN P A B ∧ mX5_curve N (nI n) x y z = some (.inr (nI n, nI (n + 1), nI P, nI A, nI B, 0, 0, 0, 0, 0, 0, 0, -1, -1)) ∧ mX6_curve N p a b rt pm (nI n) f g ps as bs fr x y z = some (nI n, p1, a1, b1, rt1, pm1, nI (n + 1), f1, g1, upd ps n (nI P), upd as n (nI A), upd bs n (nI B), upd fr n (-1)) ∧ CUR p1 a1 b1 rt1 pm1 f1 g1 pts ah) := by
  unfold mX5_curve mX6_curve
  have hN' : 20000 ≤ N := by omega
  rcases fpC_spec N hN' x with ⟨P, hF, eC⟩ | ⟨hn, eC⟩
  · rcases fpM_spec N hN' x with ⟨P', hF', eM⟩ | ⟨hn', eM⟩
    · obtain ⟨e, h5, hP, hpr⟩ := hF
      subst e
      have h1 : 1 ≤ P := by omega
      rw [eC, eM]; simp only [Option.bind_some]
      rw [if_neg (show ¬ (1 : Int32) = 0 by decide), if_neg (show ¬ (1 : Int32) = 0 by decide)]
      rcases belowC N y P hP with ⟨A, hA, e1⟩ | ⟨hn1, e1⟩
      · rcases belowM N y P h1 hP with ⟨A', hA', e2⟩ | ⟨hn2, e2⟩
        · rw [e1, e2]; simp only [Option.bind_some]
          rw [if_neg (show ¬ (1 : Int32) = 0 by decide), if_neg (show ¬ (1 : Int32) = 0 by decide)]
          rcases belowC N z P hP with ⟨B, hB, e3⟩ | ⟨hn3, e3⟩
          · rcases belowM N z P h1 hP with ⟨B', hB', e4⟩ | ⟨hn4, e4⟩
            · rw [e3, e4]; simp only [Option.bind_some]
              rw [if_neg (show ¬ (1 : Int32) = 0 by decide), if_neg (show ¬ (1 : Int32) = 0 by decide)]
              obtain ⟨rfl, hAP⟩ := hA
              obtain ⟨rfl, hBP⟩ := hB
              obtain ⟨pm', f', g', e5, hU⟩ := take_spec N hN' hC hpr h5 hP hAP hBP
              rw [cubC N P A B h1 hP hAP hBP, e5]; simp only [Option.bind_some]
              rw [splitM N P A B h1 hP hAP hBP]; simp only [Option.bind_some]
              by_cases hd : nI (disc P A B) = 0
              · rw [if_pos hd, if_pos hd]
                exact Or.inl ⟨_, _, _, _, _, _, _, _, rfl, rfl, Or.inr ⟨P, A, B, hU⟩⟩
              · rw [if_neg hd, if_neg hd]
                have hd0 : disc P A B ≠ 0 := fun w => hd (by rw [w]; rfl)
                by_cases c0 : n = 24
                · subst c0
                  rw [if_pos (show nI 24 = 24 from rfl)]
                  refine Or.inl ⟨_, _, _, _, _, _, _, _, ?_, rfl, Or.inr ⟨P, A, B, hU⟩⟩
                  unfold mX0_init; simp only [Option.bind_some]
                  rw [if_neg (show ¬ nI 24 < 24 from nI_nlt (b := 24) (by omega) (by omega))]
                · have hix : ¬ (nI n < 0 ∨ 24 ≤ (nI n).toNatClampNeg) := ix_nI (by omega) (by omega)
                  have hs : nI (n + 1) - 1 = nI n := by rw [nI_zI, nI_zI, show (1 : Int32) = zI 1 from rfl, zI_sub]; congr 1; omega
                  refine Or.inr ⟨by omega, P, A, B, _, _, _, _, _, _, _, ⟨hpr, h5, hP, hAP, hBP, hd0⟩, ?_, ?_, Or.inr ⟨P, A, B, hU⟩⟩
                  · unfold mX0_init; simp only [Option.bind_some]
                    rw [if_pos (show nI n < 24 from nI_lt (b := 24) (by omega) (by omega))]
                    unfold mX5_keep_k
                    dsimp only [mi_let]
                    rw [if_neg hix, nI_1, hs]
                    rfl
                  · rw [if_neg (show ¬ nI n = 24 from fun w => c0 ((nI_eq (b := 24) (by omega) (by omega)).mp w))]
                    unfold mX6_make
                    dsimp only [mi_let]
                    rw [if_neg hix, if_neg hix, if_neg hix, if_neg hix, nI_clamp (by omega), nI_1, hs]
                    rfl
            · exact absurd ⟨B, hB⟩ hn4
          · rcases belowM N z P h1 hP with ⟨B', hB', e4⟩ | ⟨hn4, e4⟩
            · exact absurd ⟨B', hB'⟩ hn3
            · rw [e3, e4]
              exact Or.inl ⟨_, _, _, _, _, _, _, _, rfl, rfl, hC⟩
        · exact absurd ⟨A, hA⟩ hn2
      · rcases belowM N y P h1 hP with ⟨A', hA', e2⟩ | ⟨hn2, e2⟩
        · exact absurd ⟨A', hA'⟩ hn1
        · rw [e1, e2]
          exact Or.inl ⟨_, _, _, _, _, _, _, _, rfl, rfl, hC⟩
    · exact absurd ⟨P, hF⟩ hn'
  · rcases fpM_spec N hN' x with ⟨P', hF', eM⟩ | ⟨hn', eM⟩
    · exact absurd ⟨P', hF'⟩ hn
    · rw [eC, eM]
      exact Or.inl ⟨_, _, _, _, _, _, _, _, rfl, rfl, hC⟩
