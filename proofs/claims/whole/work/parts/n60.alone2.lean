/-- x of a point that is told, on both sides -/
theorem xPart {F : Type} [mFld F] {P : Nat} {φ : Int → F} (N : Nat) (hP : P ≤ 10007) {w : Int32} {W : Pt F} (h : pe P φ w W) (ne : ¬ w = -1) : ∃ x, x < P ∧ mX5_xOf N w = some (nI x) ∧ w / 16384 = nI x := by
  rcases h with ⟨e, -⟩ | ⟨x, y, hx, hy, e, -⟩
  · exact absurd e ne
  · exact ⟨x, hx, by rw [e]; exact (xOf_nI N (x := x) (y := y) (by omega) (by omega)).1, by rw [e]; exact (pt_split (x := x) (y := y) (by omega) (by omega)).1⟩
theorem V_alone {N : Nat} (hN : 2 ^ 64 ≤ N) {P A B : Nat} {p a b rt pm cu : Int32} {f g pts ah ps as bs : Nat → Int32} {c : Int32} {pm1 : Int32} {f1 g1 : Nat → Int32} (hh : mX6_has N p a b rt pm cu f g ps as bs c = some (1, nI P, nI A, nI B, nI P, pm1, f1, g1)) (hU : CU P A B (nI P) (nI A) (nI B) (nI P) pm1 f1 g1 pts ah) {pr : Int32} {gl : Nat → Int32} (ht : tabC pr gl) (hd : disc P A B ≠ 0) (x : Int32) (y : Int64) : ∃ r pr1 gl1 A1 B1 pm2 f2 g2, mX5_alone_s N pr gl (nI P) (nI A) (nI B) c x y = some (r, pr1, gl1) ∧ tabC pr1 gl1 ∧ mX6_alone N p a b rt pm cu f g ps as bs c x y = some (r, nI P, nI A1, nI B1, nI P, pm2, f2, g2) ∧ CU P A1 B1 (nI P) (nI A1) (nI B1) (nI P) pm2 f2 g2 pts ah := by
  obtain ⟨h1, hP, h5, hp, hA, hB⟩ := hU.pos
  unfold mX5_alone_s mX6_alone
  rw [hh]; simp only [Option.bind_some]; rw [if_neg (show ¬ (1 : Int32) = 0 by decide)]
  rcases below2 N x h1 hP with ⟨X, rfl, hX, e1, e2⟩ | ⟨e1, e2⟩
  · rw [e1, e2]; simp only [Option.bind_some]; rw [if_neg (show ¬ (1 : Int32) = 0 by decide), if_neg (show ¬ (1 : Int32) = 0 by decide)]
    have hv := cub_lt P A B X h1
    obtain ⟨gl1, t1, q⟩ := lesserC (N := N) (by omega) h5 hP hA hB hX ht
    rw [rightM N P A B _ h1 hP hA hB hX]; simp only [Option.bind_some]
    rw [if_neg (ix_nI (by omega) (by omega)), nI_clamp (by omega)]; dsimp only [mi_let]
    rcases q with ⟨r, hr, e⟩ | ⟨no, e⟩
    · have rP := hr.1
      obtain ⟨F, i, φ, hc⟩ := cx_ex hp h5 hP hA hB hd
      have g1r : g1 (cub P A B X) = nI r := by
        rcases rt_cases hU.roots hv with ⟨-, z⟩ | ⟨r', z, hr'⟩
        · exact absurd hr.2.1 (z r rP)
        · rw [z, isR_un hr hr']
      obtain ⟨U, hu⟩ := isPt_pe hc (u := nI (16384 * X + r)) (Or.inr ⟨X, r, hX, rP, rfl, hr.2.1⟩)
      obtain ⟨w, ew, pw⟩ := multC hc hN hu y
      obtain ⟨w', ew', pw'⟩ := multR hc hN hU.invs hu y
      have := pe_inj hc.1 pw pw'
      subst this
      rw [e]; simp only [Option.bind_some]
      rw [if_neg (pt_ne (by omega) (by omega)), g1r, if_neg (nI_m1 (by omega)), ptz hP hX rP, ew, ew']; simp only [Option.bind_some]
      by_cases c0 : w = -1
      · rw [if_pos c0, if_pos c0]; exact ⟨_, _, _, _, _, _, _, _, rfl, t1, rfl, hU⟩
      · obtain ⟨x', hx', a1, a2⟩ := xPart N hP pw c0
        rw [if_neg c0, if_neg c0, a1, a2]
        exact ⟨_, _, _, _, _, _, _, _, rfl, t1, rfl, hU⟩
    · have g1r : g1 (cub P A B X) = -1 := by
        rcases rt_cases hU.roots hv with ⟨z, -⟩ | ⟨r', z, hr'⟩
        · exact z
        · exact absurd hr'.2.1 (no r' hr'.1)
      obtain ⟨d, A', B', pm2, f2, g2, d2, dP, nd, eA, eB, hd', n1, n2, tw, tr, hC⟩ := tw2 hN hU hd
      obtain ⟨-, -, -, -, hA', hB'⟩ := hC.pos
      have lx : d * X % P < P := Nat.mod_lt _ h1
      have mx := mul_lt dP hX hP
      have hv' := cub_lt P A' B' (d * X % P) h1
      obtain ⟨r, hr⟩ := tw_root hp h5 d2 dP nd eA eB no
      have rP := hr.1
      obtain ⟨gl2, t2, q2⟩ := lesserC (N := N) (by omega) h5 hP hA' hB' lx t1
      have g2r : g2 (cub P A' B' (d * X % P)) = nI r := by
        rcases rt_cases hC.roots hv' with ⟨-, z⟩ | ⟨r', z, hr'⟩
        · exact absurd hr.2.1 (z r rP)
        · rw [z, isR_un hr hr']
      obtain ⟨F, i, φ, hc⟩ := cx_ex hp h5 hP hA' hB' hd'
      obtain ⟨U, hu⟩ := isPt_pe hc (u := nI (16384 * (d * X % P) + r)) (Or.inr ⟨_, r, lx, rP, rfl, hr.2.1⟩)
      obtain ⟨w, ew, pw⟩ := multC hc hN hu y
      obtain ⟨w', ew', pw'⟩ := multR hc hN hC.invs hu y
      have := pe_inj hc.1 pw pw'
      subst this
      obtain ⟨iv, hiv, i1, i2, -⟩ := inv_both (N := N) (by omega) hp h5 hP hC.invs (show 0 < d by omega) dP
      rcases q2 with ⟨r', hr', e3⟩ | ⟨no', -⟩
      · have := isR_un hr hr'
        subst this
        rw [e]; simp only [Option.bind_some]
        rw [if_pos trivial, g1r, if_pos rfl, n2, n1]; simp only [Option.bind_some]
        rw [tw, tr]; simp only [Option.bind_some]
        rw [if_neg (nz_nI h1 hP), pk_mul, rem_nI (by omega) (by omega) (by omega), e3, mulM N P d X h1 hP (by omega) (by omega) (by omega)]; simp only [Option.bind_some]
        rw [rightM N P A' B' _ h1 hP hA' hB' lx]; simp only [Option.bind_some]
        rw [if_neg (ix_nI (by omega) (by omega)), nI_clamp (by omega), g2r, ptz hP lx rP, ew, ew']; simp only [Option.bind_some]
        by_cases c0 : w = -1
        · rw [if_pos c0, if_pos c0]; exact ⟨_, _, _, _, _, _, _, _, rfl, t2, rfl, hC⟩
        · obtain ⟨x', hx', a1, a2⟩ := xPart N hP pw c0
          have m3 := mul_lt hx' hiv hP
          rw [if_neg c0, if_neg c0, a1, a2, i2]; simp only [Option.bind_some]
          rw [if_neg (nz_nI h1 hP), if_neg (ix_nI (by omega) (by omega)), nI_clamp (by omega), i1, mulM N P _ _ h1 hP (by omega) (by omega) (by omega), pk_mul, rem_nI (by omega) (by omega) (by omega)]
          exact ⟨_, _, _, _, _, _, _, _, rfl, t2, rfl, hC⟩
      · exact absurd hr.2.1 (no' r rP)
  · rw [e1, e2]; exact ⟨_, _, _, _, _, _, _, _, rfl, ht, rfl, hU⟩
