theorem LK.blk {P A B : Nat} (h1 : 1 ≤ P) {t q : Nat → Int32} (hL : LK P A B P t q) : ∀ x, x ≤ P → ∀ j, 1 ≤ j → j < cnt P A B x → ∃ x' r, x' < x ∧ isR P (cub P A B x') r ∧ (t j = nI (16384 * x' + r) ∨ (0 < r ∧ t j = nI (16384 * x' + P - r)))
  | 0, _, j, j1, hj => absurd hj (by show ¬ j < 1; omega)
  | x + 1, hx, j, j1, hj => by
    by_cases k : j < cnt P A B x
    · obtain ⟨x', r, a, b, c⟩ := LK.blk h1 hL x (by omega) j j1 k
      exact ⟨x', r, by omega, b, c⟩
    · have hj' : j < cnt P A B x + wt P (cub P A B x) := hj
      obtain ⟨r, hr⟩ := wt_root (P := P) (A := A) (B := B) (x := x) h1 (by omega)
      have Lx := (hL.2 x (by omega)).2 r hr
      refine ⟨x, r, by omega, hr, ?_⟩
      by_cases e : j = cnt P A B x
      · left; rw [e]; exact Lx.1
      · right
        rcases wt_of_isR hr h1 with ⟨-, w⟩ | ⟨r0, w⟩
        · omega
        · refine ⟨r0, ?_⟩
          rw [show j = cnt P A B x + 1 by omega]
          exact Lx.2 r0
theorem rankR {N : Nat} (hN : 2 ^ 64 ≤ N) (t : Nat → Int32) (u : Int32) {k0 : Nat} (hk0 : k0 < 10300) (e0 : t k0 = u) (no : ∀ j, j < k0 → t j ≠ u) : mi_run (mX6_rank_b25 N t u) N 0 = some (nI k0) := by
  obtain ⟨o, ho, q⟩ := mi_run_ok (mX6_rank_b25 N t u) (fun s => ∃ k, k ≤ k0 ∧ s = nI k) (fun o => o = nI k0) (fun s => k0 + 1 - s.toNatClampNeg) (by
    rintro _ ⟨k, hk, rfl⟩
    dsimp only [mX6_rank_b25, mi_let]
    rw [if_neg (ix_nI (k := k) (n := 10300) (by omega) (by omega)), nI_clamp (by omega)]
    by_cases c : t k = u
    · right; rw [if_pos c]
      refine ⟨_, rfl, ?_⟩
      have : k = k0 := Classical.byContradiction fun z => no k (by omega) c
      rw [this]
    · left
      rw [if_neg c]
      have hne : k ≠ k0 := fun e => c (e ▸ e0)
      refine ⟨_, rfl, ⟨k + 1, by omega, nI_1 k⟩, ?_⟩
      rw [nI_1, nI_clamp (by omega)]; omega) N 0 ⟨0, by omega, rfl⟩ (by show k0 + 1 - _ < N; omega)
  rw [ho, q]
theorem paC {N : Nat} (hN : 2 ^ 64 ≤ N) {P A B : Nat} (h5 : 5 ≤ P) (hP : P ≤ 10007) (hA : A < P) (hB : B < P) {pr : Int32} {gl : Nat → Int32} (ht : tabC pr gl) {x y : Nat} (hx : x < P) (hy : y < P) : ∃ o, mi_run (mX3_pointsAhead_b5 N (nI (16384 * x + y)) (nI P) (nI A) (nI B)) N (1, 0, pr, gl) = some o ∧ o.1 = nI (cnt P A B x) ∧ tabC o.2.2.1 o.2.2.2 := by
  refine mi_run_ok (mX3_pointsAhead_b5 N (nI (16384 * x + y)) (nI P) (nI A) (nI B)) (fun s => ∃ k, s.2.1 = nI k ∧ k ≤ x ∧ s.1 = nI (cnt P A B k) ∧ tabC s.2.2.1 s.2.2.2) (fun o => o.1 = nI (cnt P A B x) ∧ tabC o.2.2.1 o.2.2.2) (fun s => 15000 - s.2.1.toNatClampNeg) ?_ N (1, 0, pr, gl) ⟨0, rfl, by omega, rfl, ht⟩ (by show 15000 - _ < N; omega)
  rintro ⟨x2, x3, x4, x5⟩ ⟨k, e1, hk, e2, htt⟩
  have e1' : x3 = nI k := e1
  have e2' : x2 = nI (cnt P A B k) := e2
  subst e1' e2'
  dsimp only [mX3_pointsAhead_b5, mi_let]
  rw [(xOf_nI N (x := x) (y := y) (by omega) (by omega)).1]; simp only [Option.bind_some]
  by_cases c : x ≤ k
  · right
    rw [if_pos (nI_le c (by omega))]
    have : k = x := by omega
    subst this
    exact ⟨_, rfl, rfl, htt⟩
  · left
    have hv := cub_lt P A B k (by omega)
    obtain ⟨pr', g', e, t'⟩ := manyAt_spec N (by omega) P h5 hP _ hv x4 x5 htt
    rw [if_neg (nI_ge (by omega) (by omega)), cubicC N (by omega) hP hA hB (show k < P by omega)]; simp only [Option.bind_some]
    rw [e]; simp only [Option.bind_some]
    refine ⟨_, rfl, ⟨k + 1, nI_1 k, by omega, nI_add _ _, t'⟩, ?_⟩
    show 15000 - (nI k + 1).toNatClampNeg < 15000 - (nI k).toNatClampNeg
    rw [nI_1, nI_clamp (by omega), nI_clamp (by omega)]; omega
theorem V_rank {N : Nat} (hN : 2 ^ 64 ≤ N) {P A B : Nat} {p a b rt pm cu : Int32} {f g pts ah ps as bs : Nat → Int32} {c : Int32} {pm1 : Int32} {f1 g1 : Nat → Int32} (hh : mX6_has N p a b rt pm cu f g ps as bs c = some (1, nI P, nI A, nI B, nI P, pm1, f1, g1)) (hU : CU P A B (nI P) (nI A) (nI B) (nI P) pm1 f1 g1 pts ah) {pr : Int32} {gl : Nat → Int32} (ht : tabC pr gl) (u : Int32) : ∃ r pr1 gl1, mX5_rank_s N pr gl (nI P) (nI A) (nI B) c u = some (r, pr1, gl1) ∧ tabC pr1 gl1 ∧ ∃ pm2 pts1 ah1, mX6_rank N p a b rt pm cu f g pts ah ps as bs c u = some (r, nI P, nI A, nI B, nI P, pm2, f1, g1, pts1, ah1) ∧ CU P A B (nI P) (nI A) (nI B) (nI P) pm2 f1 g1 pts1 ah1 := by
  obtain ⟨h1, hP, h5, hp, hA, hB⟩ := hU.pos
  unfold mX5_rank_s mX6_rank
  rw [hh]; simp only [Option.bind_some]; rw [if_neg (show ¬ (1 : Int32) = 0 by decide)]
  rcases holds2 N h1 hP hA hB u with ⟨k, e1, e2⟩ | ⟨e1, e2⟩
  · rw [e1, e2]; simp only [Option.bind_some]; rw [if_neg (show ¬ (1 : Int32) = 0 by decide), if_neg (show ¬ (1 : Int32) = 0 by decide)]
    have cb := cnt_b hU
    obtain ⟨t, q, el, hC, hL⟩ := listE N (by omega) hU
    rw [el]; simp only [Option.bind_some]
    by_cases u0 : u = -1
    · rw [if_pos u0, u0, rankR hN t (-1) (k0 := 0) (by omega) hL.1 (fun j hj => absurd hj (by omega))]
      exact ⟨_, _, _, rfl, ht, _, _, _, rfl, hC⟩
    · rw [if_neg u0]
      rcases k with k | ⟨x, y, hx, hy, rfl, hxy⟩
      · exact absurd k u0
      · obtain ⟨⟨o1, o2, o3, o4⟩, eo, ho1, ho2⟩ := paC hN h5 hP hA hB ht hx hy
        have ho1' : o1 = nI (cnt P A B x) := ho1
        subst ho1'
        obtain ⟨g2, t2, q2⟩ := lesserC (N := N) (by omega) h5 hP hA hB hx (show tabC o3 o4 from ho2)
        obtain ⟨r, hr⟩ := root_of hy hxy
        have Lx := (hL.2 x hx).2 r hr
        have ca := cnt_at (A := A) (B := B) hx
        unfold mX3_pointsAhead
        rw [eo]; simp only [Option.bind_some]
        rw [(xOf_nI N (x := x) (y := y) (by omega) (by omega)).1]; simp only [Option.bind_some]
        have early : ∀ j, j < cnt P A B x → t j ≠ nI (16384 * x + y) := fun j hj w => by
          by_cases j0 : j = 0
          · rw [j0, hL.1] at w
            exact pt_ne (by omega) (by omega) w.symm
          · obtain ⟨x', r', hx', hr', z⟩ := LK.blk h1 hL x (by omega) j (by omega) hj
            have rr := hr'.1
            rcases z with z | ⟨r0, z⟩
            · rw [z] at w
              have := (nI_eq (by omega) (by omega)).mp w
              omega
            · rw [z] at w
              have := (nI_eq (by omega) (by omega)).mp w
              omega
        rcases q2 with ⟨r', hr', e2⟩ | ⟨no, -⟩
        · have := isR_un hr hr'
          subst this
          have rP := hr.1
          rw [e2]; simp only [Option.bind_some]
          rcases two_roots hp h5 hr.1 hy (hxy.trans hr.2.1.symm) with z | ⟨r0, z⟩
          · subst z
            rw [if_pos rfl, rankR hN t _ (k0 := cnt P A B x) (by omega) Lx.1 early]
            exact ⟨_, _, _, rfl, t2, _, _, _, rfl, hC⟩
          · have yr : ¬ y = r := fun w => by
              have := pr_odd hp h5
              omega
            rcases wt_of_isR hr h1 with ⟨z, -⟩ | ⟨-, w⟩
            · omega
            · rw [if_neg (fun z => yr (by have := (nI_eq (by omega) (by omega)).mp z; omega)), rankR hN t _ (k0 := cnt P A B x + 1) (by omega) ((Lx.2 r0).trans (by congr 1; omega)) (fun j hj => by
                by_cases jj : j = cnt P A B x
                · subst jj
                  rw [Lx.1]
                  exact fun z => yr (by have := (nI_eq (by omega) (by omega)).mp z; omega)
                · exact early j (by omega)), nI_1]
              exact ⟨_, _, _, rfl, t2, _, _, _, rfl, hC⟩
        · exact absurd hr.2.1 (no r hr.1)
  · rw [e1, e2]; exact ⟨_, _, _, rfl, ht, _, _, _, rfl, hU⟩
