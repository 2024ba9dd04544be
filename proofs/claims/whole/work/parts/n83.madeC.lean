/-! made, on the class's side -/
theorem apC {N : Nat} (hN : 2 ^ 64 ≤ N) {F : Type} [mFld F] {P A B : Nat} {φ : Int → F} (hc : CX F P A B φ) {u v : Int32} {U V : EP (φ A) (φ B)} (hu : pe P φ u U.1) (hv : pe P φ v V.1) {I O : Nat} (oU : isOrd (gO hc) ez O U) (I0 : 0 < I) (Ib : I ≤ 10298) (Ob : O ≤ 10298) (hIO : ∀ q, prm q → q ∣ I → q ∣ O) {od reach back : Int32} {st ends : Nat → Int32} (hS : SD reach st ends) : ∃ r od1 r1 b1 st1 en1, mX3_isApart N od reach back st ends (nI P) (nI A) (nI I) (nI O) u v = some (r, od1, r1, b1, st1, en1) ∧ SD r1 st1 en1 ∧ ((r = 1 ∧ ∀ q, prm q → q ∣ I → ¬ mult (gO hc) ez (gm (gO hc) ez (O / q) U) (gm (gO hc) ez (I / q) V)) ∨ (r = 0 ∧ ¬ ∀ q, prm q → q ∣ I → ¬ mult (gO hc) ez (gm (gO hc) ez (O / q) U) (gm (gO hc) ez (I / q) V))) := by
  have ab := gO_ab hc
  have O0 := oU.1
  generalize hB : (fun q => mult (gO hc) ez (gm (gO hc) ez (O / q) U) (gm (gO hc) ez (I / q) V)) = Bd
  have hBd : ∀ q, Bd q ↔ mult (gO hc) ez (gm (gO hc) ez (O / q) U) (gm (gO hc) ez (I / q) V) := fun q => by rw [← hB]
  obtain ⟨o, eo, ho⟩ := mi_run_ok (mX3_isApart_b8 N (nI O) (nI P) (nI A) u (nI I) v) (fun s => ∃ R t : Nat, s.1 = nI R ∧ s.2.1 = nI t ∧ 0 < R ∧ R ∣ I ∧ R * 2 ^ t ≤ I ∧ SD s.2.2.2.1 s.2.2.2.2.2.1 s.2.2.2.2.2.2 ∧ ∀ q, prm q → q ∣ I → q ∣ R ∨ ¬ Bd q) (fun o => match o with | .inl s => SD s.2.2.2.1 s.2.2.2.2.2.1 s.2.2.2.2.2.2 ∧ ∀ q, prm q → q ∣ I → ¬ Bd q | .inr s => s.1 = 0 ∧ SD s.2.2.1 s.2.2.2.2.1 s.2.2.2.2.2 ∧ ∃ q, prm q ∧ q ∣ I ∧ Bd q) (fun s => 64 - s.2.1.toNatClampNeg) (by
    rintro ⟨x3, x4, x5, x6, x7, x8, x9⟩ ⟨R, t, e3, e4, R0, RI, rt, sd, hq⟩
    have e3 : x3 = nI R := e3
    have e4 : x4 = nI t := e4
    have sd : SD x6 x8 x9 := sd
    subst e3 e4
    have RC := Nat.le_of_dvd I0 RI
    have t13 : t ≤ 13 := by
      refine pow13 (q := 2) (by omega) ?_
      have := Nat.le_mul_of_pos_left (2 ^ t) R0
      omega
    dsimp only [mX3_isApart_b8, mi_let]
    rw [if_neg (show ¬ 32 ≤ nI t from nI_ge (b := 32) (by omega) (by omega))]
    by_cases r1 : R ≤ 1
    · right
      have R1 : R = 1 := by omega
      subst R1
      rw [if_pos (show nI 1 ≤ 1 by decide)]
      refine ⟨_, rfl, sd, fun q pq qI => ?_⟩
      rcases hq q pq qI with z | z
      · have := Nat.le_of_dvd (by omega) z
        have := pq.1
        omega
      · exact z
    · rw [if_neg (show ¬ nI R ≤ 1 from nI_ge (a := 1) (by omega) (by omega))]
      obtain ⟨q, el, pq, qR, -⟩ := lf2 N hN R (by omega) (by omega)
      have q2 := pq.1
      have qle := Nat.le_of_dvd R0 qR
      have qI : q ∣ I := Nat.dvd_trans qR RI
      have qO := hIO q pq qI
      have qOl := Nat.le_of_dvd O0 qO
      obtain ⟨k, m, ek, nm, ep⟩ := partC hN (n := R) (q := q) R0 (by omega) q2 (by omega)
      rw [el]; simp only [Option.bind_some]; rw [ep]; simp only [Option.bind_some]
      have qk : 0 < q ^ k := Nat.pow_pos (by omega)
      have m0 : 0 < m := by
        rcases Nat.eq_zero_or_pos m with z | z
        · rw [z] at ek; omega
        · exact z
      have qkR : q ^ k ≤ R := by have := Nat.le_mul_of_pos_right (q ^ k) m0; omega
      have k1 : 1 ≤ k := by
        rcases Nat.eq_zero_or_pos k with z | z
        · rw [z, Nat.pow_zero, Nat.one_mul] at ek
          rw [ek] at qR; exact absurd qR nm
        · exact z
      have em : R / q ^ k = m := by rw [ek]; exact Nat.mul_div_cancel_left _ qk
      have qz : ¬ nI q = 0 := nI_ne0 (by omega) (by omega)
      have Oq : O / q ≤ O := Nat.div_le_self _ _
      have Iq : I / q ≤ I := Nat.div_le_self _ _
      have oq : isOrd (gO hc) ez q (gm (gO hc) ez (O / q) U) := ord_mul ab (by omega) (by rw [Nat.div_mul_cancel qO]; exact oU)
      obtain ⟨a, ea, pa⟩ := multC hc hN hu (nI (O / q)).toInt64
      rw [nI_l_toInt (by omega), gz_nat] at pa
      obtain ⟨r', b', st', en', el', LR, pb'⟩ := lay_ok hc hN sd pa (nI q)
      obtain ⟨b, eb, pb⟩ := multC hc hN hv (nI (I / q)).toInt64
      rw [nI_l_toInt (by omega), gz_nat] at pb
      obtain ⟨w, ew, lw⟩ := stepsTo_ok hc hN oq (by omega) LR pb' pb
      rw [if_neg (nI_ne0 qk (by omega)), pk_div (by omega) qk (by omega), em, if_neg qz, pk_div (by omega) (by omega) (by omega), ea]; simp only [Option.bind_some]
      rw [el']; simp only [Option.bind_some]
      rw [if_neg qz, pk_div (by omega) (by omega) (by omega), eb]; simp only [Option.bind_some]
      rw [ew]; simp only [Option.bind_some]
      rcases lw with ⟨w1, nmu⟩ | ⟨k', n', o', kn, w1, gk⟩
      · left
        rw [if_pos w1]
        have q2k : 2 ≤ q ^ k := Nat.le_trans (Nat.le_trans q2 (Nat.le_of_eq (Nat.pow_one q).symm)) (Nat.pow_le_pow_right (by omega) k1)
        refine ⟨_, rfl, ⟨m, t + 1, rfl, nI_1 t, m0, Nat.dvd_trans ⟨q ^ k, by rw [ek, Nat.mul_comm]⟩ RI, ?_, LR.sd, fun q' pq' qI' => ?_⟩, ?_⟩
        · have : m * 2 ^ (t + 1) ≤ R * 2 ^ t := by
            rw [Nat.pow_succ, ek, Nat.mul_comm (2 ^ t) 2, ← Nat.mul_assoc]
            exact Nat.mul_le_mul_right _ (by rw [Nat.mul_comm]; exact Nat.mul_le_mul_right _ q2k)
          omega
        · by_cases qq : q' = q
          · subst qq
            exact Or.inr (fun z => nmu ((hBd _).mp z))
          · rcases hq q' pq' qI' with z | z
            · rw [ek] at z
              rcases prm_mul pq' z with z | z
              · exact absurd z (prm_pow pq' pq qq k)
              · exact Or.inl z
            · exact Or.inr z
        · show 64 - (nI t + 1).toNatClampNeg < 64 - (nI t).toNatClampNeg
          rw [nI_1, nI_clamp (by omega), nI_clamp (by omega)]; omega
      · right
        have := ord_uniq ab o' oq
        rw [if_neg (by rw [w1]; exact nI_m1 (by omega))]
        exact ⟨_, rfl, rfl, LR.sd, q, pq, qI, (hBd q).mpr ⟨k', gk.symm⟩⟩) N (nI I, 0, od, reach, back, st, ends) ⟨I, 0, rfl, rfl, I0, Nat.dvd_refl _, by rw [Nat.pow_zero, Nat.mul_one]; exact Nat.le_refl _, hS, fun q pq qI => Or.inl qI⟩ (by show 64 - _ < N; omega)
  unfold mX3_isApart
  rw [eo]; simp only [Option.bind_some]
  rcases o with ⟨y1, y2, y3, y4, y5, y6, y7⟩ | ⟨z1, z2, z3, z4, z5, z6⟩
  · refine ⟨_, _, _, _, _, _, rfl, ho.1, Or.inl ⟨rfl, fun q pq qI z => ho.2 q pq qI ((hBd q).mpr z)⟩⟩
  · obtain ⟨h1, h2, q, pq, qI, z⟩ := ho
    have h1 : z1 = 0 := h1
    exact ⟨_, _, _, _, _, _, rfl, h2, Or.inr ⟨h1, fun y => y q pq qI ((hBd q).mp z)⟩⟩
theorem ord_sym {F : Type} [mFld F] {P A B : Nat} {φ : Int → F} (hc : CX F P A B φ) (O : Nat) (V : EP (φ A) (φ B)) (h : isOrd (gO hc) ez O (en V)) : isOrd (gO hc) ez O V := ord_iv (gO_ab hc) h
theorem fmC15 {N : Nat} (hN : 2 ^ 64 ≤ N) {F : Type} [mFld F] {P A B : Nat} {φ : Int → F} (hc : CX F P A B φ) {O : Nat} (O0 : 0 < O) (Ob : O ≤ 10298) (kill : ∀ V, gm (gO hc) ez O V = ez) {pr : Int32} {gl : Nat → Int32} (ht : tabC pr gl) : ∃ o, mi_run (mX3_findMakers_b15 N (nI P) (nI A) (nI B) (nI O)) N (0, pr, gl, -1) = some o ∧ tabC o.2.1 o.2.2.1 ∧ fstP hc (isOrd (gO hc) ez O) o.2.2.2 := by
  have ab := gO_ab hc
  have hc0 := hc
  obtain ⟨hF, hp, h5, hP, hA, hB, -⟩ := hc0
  refine mi_run_ok (mX3_findMakers_b15 N (nI P) (nI A) (nI B) (nI O)) (fun s => ∃ x, x ≤ P ∧ s.1 = nI x ∧ tabC s.2.1 s.2.2.1 ∧ ((s.2.2.2 = -1 ∧ hsT hc (isOrd (gO hc) ez O) x) ∨ (¬ s.2.2.2 = -1 ∧ fstP hc (isOrd (gO hc) ez O) s.2.2.2))) _ (fun s => 20000 - s.1.toNatClampNeg) ?_ N (0, pr, gl, -1) ⟨0, by omega, rfl, ht, Or.inl ⟨rfl, fun x' V Y hx' => by omega⟩⟩ (by show 20000 - _ < N; omega)
  rintro ⟨x1, x2, x3, x4⟩ ⟨x, hx, e1, tb, q⟩
  have e1 : x1 = nI x := e1
  have tb : tabC x2 x3 := tb
  have q : (x4 = -1 ∧ hsT hc (isOrd (gO hc) ez O) x) ∨ (¬ x4 = -1 ∧ fstP hc (isOrd (gO hc) ez O) x4) := q
  subst e1
  dsimp only [mX3_findMakers_b15, mi_let]
  by_cases c : P ≤ x
  · right
    rw [if_pos (nI_le c (by omega))]
    have : x = P := by omega
    subst this
    rcases q with ⟨e, hist⟩ | ⟨-, q⟩
    · exact ⟨_, rfl, tb, by have e : x4 = -1 := e; show fstP hc _ x4; rw [e]; exact hs_end hc hist⟩
    · exact ⟨_, rfl, tb, q⟩
  · rw [if_neg (nI_ge (by omega) (by omega))]
    rcases q with ⟨e, hist⟩ | ⟨ne, q⟩
    · left
      subst e
      have hxP : x < P := by omega
      have dn : 20000 - (nI x + 1).toNatClampNeg < 20000 - (nI x).toNatClampNeg := by rw [nI_1, nI_clamp (by omega), nI_clamp (by omega)]; omega
      obtain ⟨g', t', ql⟩ := lesserC (N := N) (by omega) h5 hP hA hB hxP tb
      rw [if_pos rfl]
      rcases ql with ⟨ρ, hr, e⟩ | ⟨no, e⟩
      · rw [e]; simp only [Option.bind_some]
        have rP := hr.1
        have pn : ¬ nI (16384 * x + ρ) = -1 := pt_ne (by omega) (by omega)
        obtain ⟨R, pR⟩ := isPt_pe hc (u := nI (16384 * x + ρ)) (Or.inr ⟨x, ρ, hxP, rP, rfl, hr.2.1⟩)
        obtain ⟨o, oo, od, eo⟩ := owC hc hN pR (n := O) O0 (by omega) (kill R)
        have ol := Nat.le_of_dvd O0 od
        rw [if_neg pn, eo]; simp only [Option.bind_some]
        by_cases d : o = O
        · subst d
          rw [if_pos rfl]
          exact ⟨_, rfl, ⟨x + 1, by omega, nI_1 x, t', Or.inr ⟨pn, Or.inr ⟨x, ρ, R, hxP, hr, rfl, pR, oo, hist⟩⟩⟩, dn⟩
        · rw [if_neg (fun z => d ((nI_eq (by omega) (by omega)).mp z))]
          exact ⟨_, rfl, ⟨x + 1, by omega, nI_1 x, t', Or.inl ⟨rfl, hs_step hc (ord_sym hc O) hxP hr pR hist (fun z => d (ord_uniq ab oo z))⟩⟩, dn⟩
      · rw [e]; simp only [Option.bind_some]; rw [if_pos trivial]
        exact ⟨_, rfl, ⟨x + 1, by omega, nI_1 x, t', Or.inl ⟨rfl, hs_none hc hxP hist no⟩⟩, dn⟩
    · right
      rw [if_neg ne]
      exact ⟨_, rfl, tb, q⟩
theorem fmC72 {N : Nat} (hN : 2 ^ 64 ≤ N) {F : Type} [mFld F] {P A B : Nat} {φ : Int → F} (hc : CX F P A B φ) {u : Int32} {U : EP (φ A) (φ B)} (hu : pe P φ u U.1) {I O : Nat} (oU : isOrd (gO hc) ez O U) (I1 : 1 < I) (Ib : I ≤ 10298) (Ob : O ≤ 10298) (hIO : ∀ q, prm q → q ∣ I → q ∣ O) {pr : Int32} {gl : Nat → Int32} (ht : tabC pr gl) {od reach back : Int32} {st ends : Nat → Int32} (hS : SD reach st ends) : ∃ o, mi_run (mX3_findMakers_b72 N (nI P) (nI I) (nI A) (nI B) (nI O) u) N (0, pr, od, reach, back, gl, st, ends, -1) = some o ∧ tabC o.2.1 o.2.2.2.2.2.1 ∧ SD o.2.2.2.1 o.2.2.2.2.2.2.1 o.2.2.2.2.2.2.2.1 ∧ fstP hc (t2P hc I U) o.2.2.2.2.2.2.2.2 := by
  have ab := gO_ab hc
  have hc0 := hc
  obtain ⟨hF, hp, h5, hP, hA, hB, -⟩ := hc0
  refine mi_run_ok (mX3_findMakers_b72 N (nI P) (nI I) (nI A) (nI B) (nI O) u) (fun s => ∃ x, x ≤ P ∧ s.1 = nI x ∧ tabC s.2.1 s.2.2.2.2.2.1 ∧ SD s.2.2.2.1 s.2.2.2.2.2.2.1 s.2.2.2.2.2.2.2.1 ∧ ((s.2.2.2.2.2.2.2.2 = -1 ∧ hsT hc (t2P hc I U) x) ∨ (¬ s.2.2.2.2.2.2.2.2 = -1 ∧ fstP hc (t2P hc I U) s.2.2.2.2.2.2.2.2))) _ (fun s => 20000 - s.1.toNatClampNeg) ?_ N (0, pr, od, reach, back, gl, st, ends, -1) ⟨0, by omega, rfl, ht, hS, Or.inl ⟨rfl, fun x' V Y hx' => by omega⟩⟩ (by show 20000 - _ < N; omega)
  rintro ⟨x1, x2, x3, x4, x5, x6, x7, x8, x9⟩ ⟨x, hx, e1, tb, sd, q⟩
  have e1 : x1 = nI x := e1
  have tb : tabC x2 x6 := tb
  have sd : SD x4 x7 x8 := sd
  have q : (x9 = -1 ∧ hsT hc (t2P hc I U) x) ∨ (¬ x9 = -1 ∧ fstP hc (t2P hc I U) x9) := q
  subst e1
  dsimp only [mX3_findMakers_b72, mi_let]
  by_cases c : P ≤ x
  · right
    rw [if_pos (nI_le c (by omega))]
    have : x = P := by omega
    subst this
    rcases q with ⟨e, hist⟩ | ⟨-, q⟩
    · exact ⟨_, rfl, tb, sd, by have e : x9 = -1 := e; show fstP hc _ x9; rw [e]; exact hs_end hc hist⟩
    · exact ⟨_, rfl, tb, sd, q⟩
  · rw [if_neg (nI_ge (by omega) (by omega))]
    rcases q with ⟨e, hist⟩ | ⟨ne, q⟩
    · left
      subst e
      have hxP : x < P := by omega
      have dn : 20000 - (nI x + 1).toNatClampNeg < 20000 - (nI x).toNatClampNeg := by rw [nI_1, nI_clamp (by omega), nI_clamp (by omega)]; omega
      obtain ⟨g', t', ql⟩ := lesserC (N := N) (by omega) h5 hP hA hB hxP tb
      rw [if_pos rfl, if_neg (show ¬ nI I ≤ 1 from nI_ge (a := 1) I1 (by omega))]
      rcases ql with ⟨ρ, hr, e⟩ | ⟨no, e⟩
      · rw [e]; simp only [Option.bind_some]
        have rP := hr.1
        have pn : ¬ nI (16384 * x + ρ) = -1 := pt_ne (by omega) (by omega)
        obtain ⟨R, pR⟩ := isPt_pe hc (u := nI (16384 * x + ρ)) (Or.inr ⟨x, ρ, hxP, rP, rfl, hr.2.1⟩)
        obtain ⟨w, ew, pw⟩ := multC hc hN pR (nI I).toInt64
        rw [nI_l_toInt (by omega), gz_nat] at pw
        have wk : w = -1 ↔ gm (gO hc) ez I R = ez := (pe_none hP pw).trans ⟨fun z => Subtype.ext z, fun z => by rw [z]; rfl⟩
        have ap := apart ab (I := I) (O := O) (x := U) (y := R) oU (by omega) hIO
        rw [if_neg pn, ew]; simp only [Option.bind_some]
        by_cases w1 : w = -1
        · rw [if_pos w1]
          obtain ⟨r, od1, r1, b1, st1, en1, ea, s1, ra⟩ := apC hN hc hu pR oU (by omega) Ib Ob hIO (od := x3) (back := x5) sd
          rw [ea]; simp only [Option.bind_some]
          rcases ra with ⟨r1', y⟩ | ⟨r1', y⟩
          · subst r1'
            rw [if_neg (show ¬ (1 : Int32) = 0 by decide)]
            exact ⟨_, rfl, ⟨x + 1, by omega, nI_1 x, t', s1, Or.inr ⟨pn, Or.inr ⟨x, ρ, R, hxP, hr, rfl, pR, ap.mp ⟨wk.mp w1, y⟩, hist⟩⟩⟩, dn⟩
          · subst r1'
            rw [if_pos rfl]
            exact ⟨_, rfl, ⟨x + 1, by omega, nI_1 x, t', s1, Or.inl ⟨rfl, hs_step hc (t2_sym hc oU) hxP hr pR hist (fun z => y (ap.mpr z).2)⟩⟩, dn⟩
        · rw [if_neg w1]
          exact ⟨_, rfl, ⟨x + 1, by omega, nI_1 x, t', sd, Or.inl ⟨rfl, hs_step hc (t2_sym hc oU) hxP hr pR hist (fun z => w1 (wk.mpr z.1.2.1))⟩⟩, dn⟩
      · rw [e]; simp only [Option.bind_some]; rw [if_pos trivial]
        exact ⟨_, rfl, ⟨x + 1, by omega, nI_1 x, t', sd, Or.inl ⟨rfl, hs_none hc hxP hist no⟩⟩, dn⟩
    · right
      rw [if_neg ne]
      exact ⟨_, rfl, tb, sd, q⟩
