theorem oppN (N : Nat) {P x y : Nat} (hP : P ≤ 10007) (hx : x < P) (hy : y < P) (y0 : 0 < y) : mX0_opposite N (nI P) (nI (16384 * x + y)) = some (nI (16384 * x + P - y)) := by
  unfold mX0_opposite
  rw [if_neg (pt_ne (by omega) (by omega)), (xOf_nI N (x := x) (y := y) (by omega) (by omega)).2]; simp only [Option.bind_some]
  rw [if_neg (nI_ne0 y0 (by omega)), (xOf_nI N (x := x) (y := y) (by omega) (by omega)).1]; simp only [Option.bind_some]
  have s2 : nI P - nI y = nI (P - y) := by rw [nI_zI, nI_zI, zI_sub, nI_zI]; congr 1; omega
  rw [s2, pair_nI N (by omega) (by omega)]
  exact congrArg some (by congr 1; omega)
/-- the points ahead of the k-th -/
theorem wt_root {P A B x : Nat} (h1 : 1 ≤ P) (h : 0 < wt P (cub P A B x)) : ∃ r, isR P (cub P A B x) r := by
  have s : sqb P (cub P A B x) = true := by
    unfold wt at h
    by_cases c : cub P A B x = 0
    · exact sqb_iff.mpr ⟨0, by omega, by rw [c, Nat.zero_mul, Nat.zero_mod]⟩
    · rw [if_neg c] at h
      by_cases c2 : sqb P (cub P A B x) = true
      · exact c2
      · rw [if_neg c2] at h; omega
  obtain ⟨y, hy, e⟩ := sqb_iff.mp s
  exact root_of hy e
theorem pnC {N : Nat} (hN : 2 ^ 64 ≤ N) {P A B : Nat} (h5 : 5 ≤ P) (hP : P ≤ 10007) (hA : A < P) (hB : B < P) {pr : Int32} {gl : Nat → Int32} (ht : tabC pr gl) {t q : Nat → Int32} (hL : LK P A B P t q) {K : Nat} (hK : K < 2 ^ 31) (K1 : 1 ≤ K) : ∃ o, mi_run (mX3_pointNumber_b12 N (nI P) (nI A) (nI B) (nI K)) N (1, 0, pr, gl) = some o ∧ (match o with | .inl y => tabC y.2.2.1 y.2.2.2 ∧ cnt P A B P ≤ K | .inr y => tabC y.2.1 y.2.2 ∧ K < cnt P A B P ∧ y.1 = t K) := by
  refine mi_run_ok (mX3_pointNumber_b12 N (nI P) (nI A) (nI B) (nI K)) (fun s => ∃ x, s.2.1 = nI x ∧ x ≤ P ∧ s.1 = nI (cnt P A B x) ∧ cnt P A B x ≤ K ∧ tabC s.2.2.1 s.2.2.2) _ (fun s => 15000 - s.2.1.toNatClampNeg) ?_ N (1, 0, pr, gl) ⟨0, rfl, by omega, rfl, K1, ht⟩ (by show 15000 - _ < N; omega)
  rintro ⟨x2, x3, x4, x5⟩ ⟨x, e1, hx, e2, ck, htt⟩
  have e1' : x3 = nI x := e1
  have e2' : x2 = nI (cnt P A B x) := e2
  subst e1' e2'
  dsimp only [mX3_pointNumber_b12, mi_let]
  have h1 : 1 ≤ P := by omega
  by_cases k : x < P
  · have hv := cub_lt P A B x h1
    have cl := cnt_le P A B x
    have wl := wt_le P (cub P A B x)
    obtain ⟨pr', g', e, t'⟩ := manyAt_spec N (by omega) P h5 hP _ hv x4 x5 htt
    rw [if_neg (nI_ge k (by omega)), cubicC N h1 hP hA hB k]; simp only [Option.bind_some]
    rw [e]; simp only [Option.bind_some]; rw [nI_add]
    by_cases c1 : cnt P A B x + wt P (cub P A B x) ≤ K
    · left
      rw [if_pos (nI_le c1 hK)]
      refine ⟨_, rfl, ⟨x + 1, nI_1 x, k, rfl, c1, t'⟩, ?_⟩
      show 15000 - (nI x + 1).toNatClampNeg < 15000 - (nI x).toNatClampNeg
      rw [nI_1, nI_clamp (by omega), nI_clamp (by omega)]; omega
    · right
      rw [if_neg (nI_ge (by omega) (by omega))]
      have ca := cnt_at (A := A) (B := B) k
      obtain ⟨g2, t2, q2⟩ := lesserC (N := N) (by omega) h5 hP hA hB k t'
      obtain ⟨r, hr⟩ := wt_root (P := P) (A := A) (B := B) (x := x) h1 (by omega)
      have Lx := (hL.2 x k).2 r hr
      rcases q2 with ⟨r', hr', e2⟩ | ⟨no, -⟩
      · have := isR_un hr hr'
        subst this
        rw [e2]; simp only [Option.bind_some]
        by_cases c2 : K = cnt P A B x
        · rw [if_pos (by rw [c2])]
          exact ⟨_, rfl, t2, by omega, by rw [c2]; exact Lx.1.symm⟩
        · rw [if_neg (fun w => c2 ((nI_eq hK (by omega)).mp w))]
          rcases wt_of_isR hr h1 with ⟨-, w⟩ | ⟨r0, w⟩
          · omega
          · rw [oppN N hP k hr.1 r0]; simp only [Option.bind_some]
            refine ⟨_, rfl, t2, by omega, ?_⟩
            show nI (16384 * x + P - r) = t K
            rw [show K = cnt P A B x + 1 by omega]
            exact (Lx.2 r0).symm
      · exact absurd hr.2.1 (no r hr.1)
  · right
    rw [if_pos (nI_le (by omega) (by omega))]
    have : x = P := by omega
    subst this
    exact ⟨_, rfl, htt, ck⟩
theorem V_nth {N : Nat} (hN : 2 ^ 64 ≤ N) {P A B : Nat} {p a b rt pm cu : Int32} {f g pts ah ps as bs : Nat → Int32} {c : Int32} {pm1 : Int32} {f1 g1 : Nat → Int32} (hh : mX6_has N p a b rt pm cu f g ps as bs c = some (1, nI P, nI A, nI B, nI P, pm1, f1, g1)) (hU : CU P A B (nI P) (nI A) (nI B) (nI P) pm1 f1 g1 pts ah) {pr : Int32} {gl : Nat → Int32} (ht : tabC pr gl) (x : Int32) : ∃ r pr1 gl1, mX5_nth_s N pr gl (nI P) (nI A) (nI B) c x = some (r, pr1, gl1) ∧ tabC pr1 gl1 ∧ ∃ pm2 pts1 ah1, mX6_nth N p a b rt pm cu f g pts ah ps as bs c x = some (r, nI P, nI A, nI B, nI P, pm2, f1, g1, pts1, ah1) ∧ CU P A B (nI P) (nI A) (nI B) (nI P) pm2 f1 g1 pts1 ah1 := by
  obtain ⟨h1, hP, h5, hp, hA, hB⟩ := hU.pos
  unfold mX5_nth_s mX6_nth
  rw [hh]; simp only [Option.bind_some]; rw [if_neg (show ¬ (1 : Int32) = 0 by decide)]
  have cb := cnt_b hU
  obtain ⟨t, q, el, hC, hL⟩ := listE N (by omega) hU
  rw [el]; simp only [Option.bind_some]; rw [inE]; simp only [Option.bind_some]
  have i0 : (0 : Int64).toInt = 0 := by decide
  have s1 := sub1_toInt (n := cnt P A B P) cb.1 (by omega)
  by_cases x0 : x = 0
  · subst x0
    rw [if_pos rfl, if_neg (by rw [in_ix, i0, s1, show (0 : Int32).toInt = 0 by decide]; omega), if_neg (show ¬ ((0 : Int32) < 0 ∨ 10300 ≤ (0 : Int32).toNatClampNeg) by decide)]
    refine ⟨_, _, _, rfl, ht, _, _, _, ?_, hC⟩
    dsimp only [mi_let]
    rw [show (0 : Int32).toNatClampNeg = 0 from rfl, hL.1]
  · rw [if_neg x0]
    unfold mX3_pointNumber
    by_cases x1 : 1 ≤ x
    · have x1' := Int32.le_iff_toInt_le.mp x1
      rw [show (1 : Int32).toInt = 1 by decide] at x1'
      obtain ⟨K, hK, rfl⟩ : ∃ m, m < 2 ^ 31 ∧ x = nI m := ⟨x.toInt.toNat, by have := Int32.toInt_lt x; omega, i32_toNat (by omega)⟩
      rw [nI_toInt hK] at x1'
      obtain ⟨o, eo, ho⟩ := pnC hN h5 hP hA hB ht hL hK (by omega)
      rw [if_pos x1, eo]; simp only [Option.bind_some]
      rcases o with ⟨y1, y2, y3, y4⟩ | ⟨y1, y2, y3⟩
      · rw [if_pos (by rw [in_ix, i0, s1, nI_toInt hK]; have := ho.2; omega)]
        exact ⟨_, _, _, rfl, ho.1, _, _, _, rfl, hC⟩
      · have hk := ho.2.1
        rw [if_neg (by rw [in_ix, i0, s1, nI_toInt hK]; omega), if_neg (ix_nI (by omega) (by omega)), nI_clamp hK]
        have : y1 = t K := ho.2.2
        subst this
        exact ⟨_, _, _, rfl, ho.1, _, _, _, rfl, hC⟩
    · rw [if_neg x1, if_pos (by
        rw [in_ix, i0, s1]
        intro z
        refine x1 (Int32.le_iff_toInt_le.mpr ?_)
        rw [show (1 : Int32).toInt = 1 by decide]
        have : x.toInt ≠ 0 := fun w => x0 (Int32.toInt_inj.mp w)
        omega)]
      exact ⟨_, _, _, rfl, ht, _, _, _, rfl, hC⟩
