theorem lmN {n : Nat} (n1 : 1 ≤ n) (hn : n ≤ 10300) : ¬ (nI n).toInt64 = 0 ∧ ∀ a : Nat, a < 2 ^ 63 → mi_lrem (lN a) (nI n).toInt64 = lN (a % n) := by
  refine ⟨?_, fun a ha => ?_⟩
  · rw [nI_l (by omega)]; intro h
    have := (lN_eq (a := n) (b := 0) (by omega) (by omega)).mp h
    omega
  · rw [nI_l (by omega)]; unfold mi_lrem
    rw [pk_lRem ha (by omega) (by omega)]
theorem sg_mod (e x d v n : Nat) : ((e % n + x % n * d) % n * v) % n = ((e + x % n * d) % n * v) % n := by
  rw [Nat.mod_add_mod]
/-- k times a point of order o is told by its x -/
theorem mul_x {N : Nat} (hN : 2 ^ 64 ≤ N) {F : Type} [mFld F] {P A B : Nat} {φ : Int → F} (hc : CX F P A B φ) {f : Nat → Int32} (hf : invOK P f) {u : Int32} {U : EP (φ A) (φ B)} (hu : pe P φ u U.1) {o k : Nat} (ho : isOrd (gO hc) ez o U) (k0 : 0 < k) (kn : k < o) (ob : o ≤ 10300) : ∃ w x, x < P ∧ mX0_multiple N (nI P) (nI A) u (nI k).toInt64 = some w ∧ mX6_multiple N (nI P) (nI A) f u (nI k).toInt64 = some w ∧ ¬ w = -1 ∧ mX5_xOf N w = some (nI x) ∧ w / 16384 = nI x := by
  obtain ⟨w, e1, p1⟩ := multC hc hN hu (nI k).toInt64
  obtain ⟨w', e2, p2⟩ := multR hc hN hf hu (nI k).toInt64
  have := pe_inj hc.1 p1 p2
  subst this
  rw [nI_l_toInt (by omega), gz_nat] at p1
  have hP := hc.2.2.2.1
  have ne : ¬ w = -1 := fun z => ho.2.2 k k0 kn (Subtype.ext ((pe_none hP p1).mp z))
  obtain ⟨x, hx, a1, a2⟩ := xPart N hP p1 ne
  exact ⟨w, x, hx, e1, e2, ne, a1, a2⟩
theorem V_sign {N : Nat} (hN : 2 ^ 64 ≤ N) {P A B : Nat} {p a b rt pm cu : Int32} {f g pts ah ps as bs : Nat → Int32} {c : Int32} {pm1 : Int32} {f1 g1 : Nat → Int32} (hh : mX6_has N p a b rt pm cu f g ps as bs c = some (1, nI P, nI A, nI B, nI P, pm1, f1, g1)) (hU : CU P A B (nI P) (nI A) (nI B) (nI P) pm1 f1 g1 pts ah) {pr : Int32} {gl : Nat → Int32} (ht : tabC pr gl) {q : Int32} (hq : q = 0 ∨ q = nI (cnt P A B P)) (hd : disc P A B ≠ 0) (u d k e s : Int32) : ∃ r pr1 gl1 q1, mX5_sign_s N pr gl (nI P) (nI A) (nI B) q c u d k e s = some (r, pr1, gl1, q1) ∧ tabC pr1 gl1 ∧ (q1 = 0 ∨ q1 = nI (cnt P A B P)) ∧ ∃ pm2 pts1 ah1, mX6_sign N p a b rt pm cu f g pts ah ps as bs c u d k e s = some (r, nI P, nI A, nI B, nI P, pm2, f1, g1, pts1, ah1) ∧ CU P A B (nI P) (nI A) (nI B) (nI P) pm2 f1 g1 pts1 ah1 := by
  obtain ⟨h1, hP, h5, hp, hA, hB⟩ := hU.pos
  unfold mX5_sign_s mX6_sign
  rw [hh]; simp only [Option.bind_some]; rw [if_neg (show ¬ (1 : Int32) = 0 by decide)]
  have i0 : (0 : Int64).toInt = 0 := by decide
  have i1 : (1 : Int64).toInt = 1 := by decide
  have j0 : (0 : Int32).toInt = 0 := by decide
  have j1 : (1 : Int32).toInt = 1 := by decide
  rcases holds2 N h1 hP hA hB u with ⟨kp, e1, e2⟩ | ⟨e1, e2⟩
  · rw [e2]; simp only [Option.bind_some]; rw [if_neg (show ¬ (1 : Int32) = 0 by decide)]
    obtain ⟨F, i, φ, hc⟩ := cx_ex hp h5 hP hA hB hd
    have cb := cnt_b hU
    obtain ⟨U, o, pr1, gl1, hu, ho, o1, ob, t, q⟩ := prO hN hc ht hq ⟨cb.1, by omega⟩ kp e1
    obtain ⟨pts1, ah1, el, hC, -⟩ := orderR hc hN hU hu ho
    rw [inE]; simp only [Option.bind_some]
    rcases q with ⟨pp, q1, q2⟩ | ⟨pp, q1, q2⟩
    · rw [q2]; simp only [Option.bind_some]
      rw [if_neg (nI_ne0 (by omega) (by omega))]
      by_cases ks : inF s.toInt64 0 1 = 0
      · rw [if_pos ks]
        have ks' : s < 0 ∨ ¬ s ≤ 1 := by
          rw [in_ix, i0, i1] at ks
          by_cases z : s < 0
          · exact Or.inl z
          · refine Or.inr fun w => ks ⟨?_, ?_⟩
            · have := Int32.le_iff_toInt_le.mp (Int32.not_lt.mp z); omega
            · have := Int32.le_iff_toInt_le.mp w; omega
        have hx : (if d < 1 then some ((-2 : Int32), pr1, gl1, nI (cnt P A B P)) else if nI o ≤ d then some ((-2), pr1, gl1, nI (cnt P A B P)) else if k < 1 then some ((-2), pr1, gl1, nI (cnt P A B P)) else if nI o ≤ k then some ((-2), pr1, gl1, nI (cnt P A B P)) else if e < 0 then some ((-2), pr1, gl1, nI (cnt P A B P)) else some ((-2), pr1, gl1, nI (cnt P A B P))) = some ((-2), pr1, gl1, nI (cnt P A B P)) := by
          repeat' split
          all_goals rfl
        rcases ks' with z | z
        · simp only [if_pos z]; rw [hx]
          exact ⟨_, _, _, _, rfl, t, Or.inr rfl, _, _, _, rfl, hU⟩
        · simp only [if_neg z, ite_self]
          exact ⟨_, _, _, _, rfl, t, Or.inr rfl, _, _, _, rfl, hU⟩
      · rw [if_neg ks]
        rw [in_ix, i0, i1] at ks
        have ks := Classical.not_not.mp ks
        have s0 : ¬ s < 0 := fun z => by have := Int32.lt_iff_toInt_lt.mp z; omega
        have s1 : s ≤ 1 := Int32.le_iff_toInt_le.mpr (by omega)
        by_cases ke : e < 0
        · rw [if_neg (show ¬ (0 : Int32) ≤ e from fun z => by
            have := Int32.lt_iff_toInt_lt.mp ke
            have := Int32.le_iff_toInt_le.mp z
            omega)]
          simp only [if_pos ke]
          have hx : (if d < 1 then some ((-2 : Int32), pr1, gl1, nI (cnt P A B P)) else if nI o ≤ d then some ((-2), pr1, gl1, nI (cnt P A B P)) else if k < 1 then some ((-2), pr1, gl1, nI (cnt P A B P)) else if nI o ≤ k then some ((-2), pr1, gl1, nI (cnt P A B P)) else some ((-2), pr1, gl1, nI (cnt P A B P))) = some ((-2), pr1, gl1, nI (cnt P A B P)) := by
            repeat' split
            all_goals rfl
          rw [hx]
          exact ⟨_, _, _, _, rfl, t, Or.inr rfl, _, _, _, rfl, hU⟩
        · have e0 := Int32.le_iff_toInt_le.mp (Int32.not_lt.mp ke)
          rw [j0] at e0
          have eE := i32_toNat e0
          generalize hE : e.toInt.toNat = E at eE
          have Eb : E < 2 ^ 31 := by have := e.toInt_lt; omega
          subst eE
          rw [if_pos (Int32.not_lt.mp ke), el]; simp only [Option.bind_some]; rw [q1]; simp only [Option.bind_some]; rw [if_neg (show ¬ (1 : Int32) = 0 by decide), inE, inE]; simp only [Option.bind_some]
          rcases rng (x := d) (n := o) (by omega) (by omega) with ⟨D, rfl, D0, Dn, dk⟩ | ⟨dn, dk⟩
          · rcases rng (x := k) (n := o) (by omega) (by omega) with ⟨K, rfl, K0, Kn, kk⟩ | ⟨kn, kk⟩
            · obtain ⟨w, x, hx, m1, m2, ne, x1, x2⟩ := mul_x hN hc hU.invs hu ho K0 Kn (by omega)
              obtain ⟨v, hv, v1, v2⟩ := inv_over hN pp (by omega) K0 Kn
              obtain ⟨lz, lm⟩ := lmN (n := o) (by omega) (by omega)
              have xo : x % o < o := Nat.mod_lt _ (by omega)
              have eo : E % o < o := Nat.mod_lt _ (by omega)
              have b1 : x % o * D ≤ 10298 * 10298 := Nat.mul_le_mul (by omega) (by omega)
              have b2 : (E % o + x % o * D) % o * v ≤ 10298 * 10298 := Nat.mul_le_mul (by have := Nat.mod_lt (E % o + x % o * D) (show 0 < o by omega); omega) (by omega)
              have b3 : (E + x % o * D) % o * v ≤ 10298 * 10298 := Nat.mul_le_mul (by have := Nat.mod_lt (E + x % o * D) (show 0 < o by omega); omega) (by omega)
              have zo : ¬ nI o = 0 := nI_ne0 (by omega) (by omega)
              rw [dk, kk, if_neg (show ¬ (1 : Int32) = 0 by decide), if_neg (show ¬ (1 : Int32) = 0 by decide), m2]; simp only [Option.bind_some]; dsimp only [mi_let]
              rw [x2, if_neg zo, if_neg lz, v1]; simp only [Option.bind_some]
              rw [if_neg lz, rem_nI (a := x) (by omega) (by omega) (by omega), nI_l (n := E) (by omega), nI_l (n := x % o) (by omega), nI_l (n := D) (by omega), nI_l (n := v) (by omega), lN_mul, lN_add, lm _ (by omega), lN_mul, lm _ (by omega), lN_i]
              rw [if_neg (show ¬ nI D < 1 from nI_nlt (b := 1) (by omega) (by omega)), if_neg (nI_ge Dn (by omega)), if_neg (show ¬ nI K < 1 from nI_nlt (b := 1) (by omega) (by omega)), if_neg (nI_ge Kn (by omega)), if_neg ke, if_neg s0, if_pos s1, m1]; simp only [Option.bind_some]
              rw [if_neg ne, x1]; simp only [Option.bind_some]
              rw [if_neg zo, if_neg zo, if_neg zo, v2]; simp only [Option.bind_some]
              simp only [if_neg zo]
              rw [rem_nI (a := E) (by omega) (by omega) (by omega), rem_nI (a := x) (by omega) (by omega) (by omega), pk_mul, nI_add, rem_nI (by omega) (by omega) (by omega), pk_mul, rem_nI (by omega) (by omega) (by omega), sg_mod]
              generalize nI ((E + x % o * D) % o * v % o) = z
              generalize nI (x % o) = y
              by_cases y0 : y = 0
              · rw [if_pos y0, if_pos y0]; exact ⟨_, _, _, _, rfl, t, Or.inr rfl, _, _, _, rfl, hC⟩
              · rw [if_neg y0, if_neg y0]
                by_cases z0 : z = 0
                · rw [if_pos z0, if_pos z0]; exact ⟨_, _, _, _, rfl, t, Or.inr rfl, _, _, _, rfl, hC⟩
                · rw [if_neg z0, if_neg z0]
                  by_cases w0 : s = 0
                  · rw [if_pos w0, if_pos w0]; exact ⟨_, _, _, _, rfl, t, Or.inr rfl, _, _, _, rfl, hC⟩
                  · rw [if_neg w0, if_neg w0]; exact ⟨_, _, _, _, rfl, t, Or.inr rfl, _, _, _, rfl, hC⟩
            · rw [dk, kk, if_neg (show ¬ (1 : Int32) = 0 by decide), if_pos rfl]
              rw [if_neg (show ¬ nI D < 1 from nI_nlt (b := 1) (by omega) (by omega)), if_neg (nI_ge Dn (by omega))]
              rcases kn with z | ⟨y, z⟩
              · rw [if_pos z]; exact ⟨_, _, _, _, rfl, t, Or.inr rfl, _, _, _, rfl, hC⟩
              · rw [if_neg y, if_pos z]; exact ⟨_, _, _, _, rfl, t, Or.inr rfl, _, _, _, rfl, hC⟩
          · rw [dk, if_pos rfl]
            rcases dn with z | ⟨y, z⟩
            · rw [if_pos z]; exact ⟨_, _, _, _, rfl, t, Or.inr rfl, _, _, _, rfl, hC⟩
            · rw [if_neg y, if_pos z]; exact ⟨_, _, _, _, rfl, t, Or.inr rfl, _, _, _, rfl, hC⟩
    · rw [q2]; simp only [Option.bind_some]
      rw [if_pos trivial]
      by_cases ks : inF s.toInt64 0 1 = 0
      · rw [if_pos ks]; exact ⟨_, _, _, _, rfl, t, Or.inr rfl, _, _, _, rfl, hU⟩
      · rw [if_neg ks]
        by_cases ke : (0 : Int32) ≤ e
        · rw [if_pos ke, el]; simp only [Option.bind_some]; rw [q1]; exact ⟨_, _, _, _, rfl, t, Or.inr rfl, _, _, _, rfl, hC⟩
        · rw [if_neg ke]; exact ⟨_, _, _, _, rfl, t, Or.inr rfl, _, _, _, rfl, hU⟩
  · rw [e2]
    have : mX5_primeOrder_s N pr gl (nI P) (nI A) (nI B) q u = some (0, pr, gl, q) := by
      unfold mX5_primeOrder_s; rw [e1]; rfl
    rw [this]
    exact ⟨_, _, _, _, rfl, ht, hq, _, _, _, rfl, hU⟩
