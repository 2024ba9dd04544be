/-- the same multiple on both sides -/
theorem mul2 {N : Nat} (hN : 2 ^ 64 ≤ N) {F : Type} [mFld F] {P A B : Nat} {φ : Int → F} (hc : CX F P A B φ) {f : Nat → Int32} (hf : invOK P f) {u : Int32} {U : EP (φ A) (φ B)} (hu : pe P φ u U.1) (k : Int64) : ∃ w, mX0_multiple N (nI P) (nI A) u k = some w ∧ mX6_multiple N (nI P) (nI A) f u k = some w ∧ pe P φ w (gz (gO hc) ez en k.toInt U).1 := by
  obtain ⟨w, e1, p1⟩ := multC hc hN hu k
  obtain ⟨w', e2, p2⟩ := multR hc hN hf hu k
  have := pe_inj hc.1 p1 p2
  subst this
  exact ⟨w, e1, e2, p1⟩
theorem sum2 {N : Nat} (hN : 2 ^ 64 ≤ N) {F : Type} [mFld F] {P A B : Nat} {φ : Int → F} (hc : CX F P A B φ) {f : Nat → Int32} (hf : invOK P f) {u v : Int32} {U V : EP (φ A) (φ B)} (hu : pe P φ u U.1) (hv : pe P φ v V.1) : ∃ w, mX0_sum N (nI P) (nI A) u v = some w ∧ mX6_sum N (nI P) (nI A) f u v = some w ∧ pe P φ w (gO hc U V).1 := by
  obtain ⟨w, e1, p1⟩ := sumCe hc N (by omega) hu hv
  obtain ⟨w', e2, p2⟩ := sumRe hc N hf hu hv
  have := pe_inj hc.1 p1 p2
  subst this
  exact ⟨w, e1, e2, p1⟩
theorem V_good {N : Nat} (hN : 2 ^ 64 ≤ N) {P A B : Nat} {p a b rt pm cu : Int32} {f g pts ah ps as bs : Nat → Int32} {c : Int32} {pm1 : Int32} {f1 g1 : Nat → Int32} (hh : mX6_has N p a b rt pm cu f g ps as bs c = some (1, nI P, nI A, nI B, nI P, pm1, f1, g1)) (hU : CU P A B (nI P) (nI A) (nI B) (nI P) pm1 f1 g1 pts ah) {pr : Int32} {gl : Nat → Int32} (ht : tabC pr gl) {q : Int32} (hq : q = 0 ∨ q = nI (cnt P A B P)) (hd : disc P A B ≠ 0) (u v e x y : Int32) : ∃ r pr1 gl1 q1, mX5_good_s N pr gl (nI P) (nI A) (nI B) q c u v e x y = some (r, pr1, gl1, q1) ∧ tabC pr1 gl1 ∧ (q1 = 0 ∨ q1 = nI (cnt P A B P)) ∧ ∃ pm2 pts1 ah1, mX6_good N p a b rt pm cu f g pts ah ps as bs c u v e x y = some (r, nI P, nI A, nI B, nI P, pm2, f1, g1, pts1, ah1) ∧ CU P A B (nI P) (nI A) (nI B) (nI P) pm2 f1 g1 pts1 ah1 := by
  obtain ⟨h1, hP, h5, hp, hA, hB⟩ := hU.pos
  unfold mX5_good_s mX6_good
  rw [hh]; simp only [Option.bind_some]; rw [if_neg (show ¬ (1 : Int32) = 0 by decide)]
  have j0 : (0 : Int32).toInt = 0 := by decide
  rcases holds2 N h1 hP hA hB u with ⟨kp, e1, e2⟩ | ⟨e1, e2⟩
  · rw [e2]; simp only [Option.bind_some]; rw [if_neg (show ¬ (1 : Int32) = 0 by decide)]
    obtain ⟨F, i, φ, hc⟩ := cx_ex hp h5 hP hA hB hd
    have cb := cnt_b hU
    obtain ⟨U, o, pr1, gl1, hu, ho, o1, ob, t, q⟩ := prO hN hc ht hq ⟨cb.1, by omega⟩ kp e1
    obtain ⟨pts1, ah1, el, hC, -⟩ := orderR hc hN hU hu ho
    rcases q with ⟨pp, q1, q2⟩ | ⟨pp, q1, q2⟩
    · rw [q2]; simp only [Option.bind_some]
      have zo : ¬ nI o = 0 := nI_ne0 (by omega) (by omega)
      rw [if_neg zo]
      rcases holds2 N h1 hP hA hB v with ⟨kq, e3, e4⟩ | ⟨e3, e4⟩
      · rw [e3, e4]; simp only [Option.bind_some]; rw [if_neg (show ¬ (1 : Int32) = 0 by decide), if_neg (show ¬ (1 : Int32) = 0 by decide)]
        obtain ⟨V, hv⟩ := isPt_pe hc kq
        by_cases ke : (0 : Int32) ≤ e
        · have e0 := Int32.le_iff_toInt_le.mp ke
          rw [j0] at e0
          have eE := i32_toNat e0
          generalize hE : e.toInt.toNat = E at eE
          have Eb : E < 2 ^ 31 := by have := e.toInt_lt; omega
          subst eE
          rw [if_pos ke, if_pos ke, el]; simp only [Option.bind_some]; rw [q1]; simp only [Option.bind_some]; rw [if_neg (show ¬ (1 : Int32) = 0 by decide), inE, inE]; simp only [Option.bind_some]
          rcases rng (x := x) (n := o) (by omega) (by omega) with ⟨X, rfl, X0, Xn, xk⟩ | ⟨xn, xk⟩
          · rcases rng (x := y) (n := o) (by omega) (by omega) with ⟨Y, rfl, Y0, Yn, yk⟩ | ⟨yn, yk⟩
            · obtain ⟨s, hs, s1, s2⟩ := inv_over hN pp (by omega) Y0 Yn
              obtain ⟨lz, lm⟩ := lmN (n := o) (by omega) (by omega)
              have eo : E % o < o := Nat.mod_lt _ (by omega)
              have b1 : E % o * s ≤ 10298 * 10298 := Nat.mul_le_mul (by omega) (by omega)
              have b2 : X * s ≤ 10298 * 10298 := Nat.mul_le_mul (by omega) (by omega)
              have m1 : E % o * s % o < o := Nat.mod_lt _ (by omega)
              have m2 : X * s % o < o := Nat.mod_lt _ (by omega)
              obtain ⟨a, a1, a2, pa⟩ := mul2 hN hc hU.invs hu (lN (E % o * s % o))
              obtain ⟨b', b3, b4, pb⟩ := mul2 hN hc hU.invs hv (lN (X * s % o))
              obtain ⟨w, w1, w2, pw⟩ := sum2 hN hc hU.invs pa pb
              rw [xk, yk, if_neg (show ¬ (1 : Int32) = 0 by decide), if_neg (show ¬ (1 : Int32) = 0 by decide), s1]; simp only [Option.bind_some]; dsimp only [mi_let]
              simp only [if_neg zo, if_neg lz]
              rw [rem_nI (a := E) (by omega) (by omega) (by omega), nI_l (n := E % o) (by omega), nI_l (n := s) (by omega), nI_l (n := X) (by omega), lN_mul, lN_mul, lm _ (by omega), lm _ (by omega), a2]; simp only [Option.bind_some]
              rw [b4]; simp only [Option.bind_some]; rw [w2]; simp only [Option.bind_some]
              rw [if_neg (show ¬ nI X < 1 from nI_nlt (b := 1) (by omega) (by omega)), if_neg (nI_ge Xn (by omega)), if_neg (show ¬ nI Y < 1 from nI_nlt (b := 1) (by omega) (by omega)), if_pos (nI_lt Yn (by omega)), s2]; simp only [Option.bind_some]
              rw [pk_mul, pk_mul, rem_nI (by omega) (by omega) (by omega), rem_nI (by omega) (by omega) (by omega), nI_l (by omega), nI_l (by omega), a1]; simp only [Option.bind_some]
              rw [b3]; simp only [Option.bind_some]; rw [w1]; simp only [Option.bind_some]
              by_cases c0 : w = -1
              · rw [if_pos c0, if_pos c0]; exact ⟨_, _, _, _, rfl, t, Or.inr rfl, _, _, _, rfl, hC⟩
              · obtain ⟨z, hz, z1, z2⟩ := xPart N hP pw c0
                rw [if_neg c0, if_neg c0, z1, z2]; simp only [Option.bind_some]
                by_cases c1 : mi_rem (nI z) (nI o) = nI X
                · rw [if_pos c1, if_pos c1]; exact ⟨_, _, _, _, rfl, t, Or.inr rfl, _, _, _, rfl, hC⟩
                · rw [if_neg c1, if_neg c1]; exact ⟨_, _, _, _, rfl, t, Or.inr rfl, _, _, _, rfl, hC⟩
            · rw [xk, yk, if_neg (show ¬ (1 : Int32) = 0 by decide), if_pos rfl]
              rw [if_neg (show ¬ nI X < 1 from nI_nlt (b := 1) (by omega) (by omega)), if_neg (nI_ge Xn (by omega))]
              rcases yn with z | ⟨z', z⟩
              · rw [if_pos z]; exact ⟨_, _, _, _, rfl, t, Or.inr rfl, _, _, _, rfl, hC⟩
              · rw [if_neg z', if_neg (Int32.not_lt.mpr z)]; exact ⟨_, _, _, _, rfl, t, Or.inr rfl, _, _, _, rfl, hC⟩
          · rw [xk, if_pos rfl]
            rcases xn with z | ⟨z', z⟩
            · rw [if_pos z]; exact ⟨_, _, _, _, rfl, t, Or.inr rfl, _, _, _, rfl, hC⟩
            · rw [if_neg z', if_pos z]; exact ⟨_, _, _, _, rfl, t, Or.inr rfl, _, _, _, rfl, hC⟩
        · rw [if_neg ke, if_neg ke]; exact ⟨_, _, _, _, rfl, t, Or.inr rfl, _, _, _, rfl, hU⟩
      · rw [e3, e4]; exact ⟨_, _, _, _, rfl, t, Or.inr rfl, _, _, _, rfl, hU⟩
    · rw [q2]; simp only [Option.bind_some]
      rw [if_pos trivial]
      rcases holds2 N h1 hP hA hB v with ⟨kq, e3, e4⟩ | ⟨e3, e4⟩
      · rw [e4]; simp only [Option.bind_some]; rw [if_neg (show ¬ (1 : Int32) = 0 by decide)]
        by_cases ke : (0 : Int32) ≤ e
        · rw [if_pos ke, el]; simp only [Option.bind_some]; rw [q1]; exact ⟨_, _, _, _, rfl, t, Or.inr rfl, _, _, _, rfl, hC⟩
        · rw [if_neg ke]; exact ⟨_, _, _, _, rfl, t, Or.inr rfl, _, _, _, rfl, hU⟩
      · rw [e4]; exact ⟨_, _, _, _, rfl, t, Or.inr rfl, _, _, _, rfl, hU⟩
  · rw [e2]
    have : mX5_primeOrder_s N pr gl (nI P) (nI A) (nI B) q u = some (0, pr, gl, q) := by
      unfold mX5_primeOrder_s; rw [e1]; rfl
    rw [this]
    exact ⟨_, _, _, _, rfl, ht, hq, _, _, _, rfl, hU⟩
