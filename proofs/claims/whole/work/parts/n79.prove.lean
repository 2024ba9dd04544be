def prv (P t o : Nat) : Prop := (P + 1 + t) / o = (P - t) / o + 1
theorem prv_up {P t C o O : Nat} (tP : t ≤ P) (l1 : P + 1 ≤ C + t) (l2 : C ≤ P + 1 + t) (o0 : 0 < o) (O0 : 0 < O) (oO : o ∣ O) (OC : O ∣ C) (h : prv P t o) : prv P t O := by
  unfold prv at *
  obtain ⟨s, rfl⟩ := oO
  obtain ⟨c, rfl⟩ := OC
  have s0 : 0 < s := Nat.pos_of_ne_zero fun z => by rw [z] at O0; omega
  generalize hl : P - t = l at *
  generalize hh : P + 1 + t = hi at *
  generalize eO : o * s = O at *
  -- at least one
  have a1 : l / O < c := (Nat.div_lt_iff_lt_mul O0).mpr (by rw [Nat.mul_comm]; omega)
  have a2 : c ≤ hi / O := (Nat.le_div_iff_mul_le O0).mpr (by rw [Nat.mul_comm]; exact l2)
  refine Nat.le_antisymm (Nat.le_of_not_lt fun z => ?_) (by omega)
  -- two of O would be two of o
  have b1 : (l / O + 2) * O ≤ hi := (Nat.le_div_iff_mul_le O0).mp z
  have b2 : (l / O + 2) * s ≤ hi / o := (Nat.le_div_iff_mul_le o0).mpr (by rw [Nat.mul_assoc, Nat.mul_comm s o, eO]; exact b1)
  have b3 : l / o < (l / O + 1) * s := (Nat.div_lt_iff_lt_mul o0).mpr (by rw [Nat.mul_assoc, Nat.mul_comm s o, eO]; exact Nat.lt_mul_of_div_lt (Nat.lt_succ_self _) O0)
  have b4 : (l / O + 2) * s = (l / O + 1) * s + s := by rw [← Nat.succ_mul]
  omega
theorem prv_1 {P t : Nat} (tP : t ≤ P) (t0 : 0 < t) : ¬ prv P t 1 := fun h => by
  unfold prv at h
  rw [Nat.div_one, Nat.div_one] at h; omega
theorem prvDec (P t o : Nat) (hP : P ≤ 10007) (tP : t ≤ P) (o0 : 0 < o) (hb : o ≤ 10300) : (prv P t o ∧ nI (P + 1 + t) / nI o - nI (P - t) / nI o = 1) ∨ (¬ prv P t o ∧ ¬ nI (P + 1 + t) / nI o - nI (P - t) / nI o = 1) := by
  have m1 := Nat.div_le_self (P + 1 + t) o
  have m2 : (P - t) / o ≤ (P + 1 + t) / o := Nat.div_le_div_right (by omega)
  have e : nI (P + 1 + t) / nI o - nI (P - t) / nI o = nI ((P + 1 + t) / o - (P - t) / o) := by
    rw [pk_div (by omega) o0 (by omega), pk_div (by omega) o0 (by omega), nI_zI, nI_zI, nI_zI, zI_sub]; congr 1; omega
  rw [e]
  unfold prv
  generalize (P + 1 + t) / o = a at *
  generalize (P - t) / o = b at *
  by_cases k : a = b + 1
  · left; exact ⟨k, by rw [show a - b = 1 by omega]; rfl⟩
  · right; exact ⟨k, fun z => by
      have := (nI_eq (a := a - b) (b := 1) (by omega) (by omega)).mp z
      omega⟩
theorem prvC {N : Nat} {P t o : Nat} (hP : P ≤ 10007) (tP : t ≤ P) (er : mX4_reachOf N (nI P) = some (nI t)) (o0 : 0 < o) (hb : o ≤ 10300) : (prv P t o ∧ mX0_isProvedBy N (nI P) (nI o) = some 1) ∨ (¬ prv P t o ∧ mX0_isProvedBy N (nI P) (nI o) = some 0) := by
  unfold mX0_isProvedBy
  have oz : ¬ nI o = 0 := nI_ne0 o0 (by omega)
  have s1 : nI P + 1 + nI t = nI (P + 1 + t) := by rw [nI_1, nI_add]
  have s2 : nI P - nI t = nI (P - t) := by rw [nI_zI, nI_zI, nI_zI, zI_sub]; congr 1; omega
  rw [if_pos (show 1 ≤ nI o from nI_le (a := 1) o0 (by omega)), er]; simp only [Option.bind_some]
  rw [if_neg oz]; dsimp only [mi_let]; rw [if_neg oz, s1, s2]
  rcases prvDec P t o hP tP o0 hb with ⟨k, z⟩ | ⟨k, z⟩
  · left; rw [if_pos z]; exact ⟨k, rfl⟩
  · right; rw [if_neg z]; exact ⟨k, rfl⟩
theorem prvR {F : Type} [mFld F] {P A B : Nat} {φ : Int → F} (hc : CX F P A B φ) {N : Nat} (hN : 2 ^ 64 ≤ N) {rt : Int32} {f g pts ah : Nat → Int32} (h : CU P A B (nI P) (nI A) (nI B) rt (nI (cnt P A B P)) f g pts ah) {t : Nat} (tP : t ≤ P) (er : mX6_least N (nI P) = some (nI (P + 1 - t))) {u : Int32} {U : EP (φ A) (φ B)} (hu : pe P φ u U.1) {o : Nat} (ho : isOrd (gO hc) ez o U) : (prv P t o ∧ mX6_proves N (nI P) (nI A) (nI B) (nI (cnt P A B P)) f g pts ah u = some (1, nI (cnt P A B P), pts, ah)) ∨ (¬ prv P t o ∧ mX6_proves N (nI P) (nI A) (nI B) (nI (cnt P A B P)) f g pts ah u = some (0, nI (cnt P A B P), pts, ah)) := by
  have cb := cnt_b h
  have hP := hc.2.2.2.1
  have ob : o ≤ 10298 := by
    have := Nat.le_of_dvd cb.1 ((ord_dvd (gO_ab hc) ho _).mp (cx_lagr hc U))
    omega
  have o0 := ho.1
  have oz : ¬ nI o = 0 := nI_ne0 o0 (by omega)
  unfold mX6_proves
  rw [ordK hc hN h hu ho]; simp only [Option.bind_some]; rw [er]; simp only [Option.bind_some]; dsimp only [mi_let]
  have s1 : 2 * nI P + 2 - nI (P + 1 - t) = nI (P + 1 + t) := by
    rw [show (2 : Int32) = zI 2 from rfl, nI_zI, nI_zI, nI_zI, zI_mul, zI_add, zI_sub]; congr 1; omega
  have s2 : nI (P + 1 - t) - 1 = nI (P - t) := by
    rw [show (1 : Int32) = zI 1 from rfl, nI_zI, nI_zI, zI_sub]; congr 1; omega
  rw [if_neg oz, if_neg oz, s1, s2]
  rcases prvDec P t o hP tP o0 (by omega) with ⟨k, z⟩ | ⟨k, z⟩
  · left; rw [if_pos z]; exact ⟨k, rfl⟩
  · right; rw [if_neg z]; exact ⟨k, rfl⟩
/-- a point that proves N -/
def prT {F : Type} [mFld F] {P A B : Nat} {φ : Int → F} (hc : CX F P A B φ) (t : Nat) (V : EP (φ A) (φ B)) : Prop := ∃ o, isOrd (gO hc) ez o V ∧ prv P t o
theorem prT_sym {F : Type} [mFld F] {P A B : Nat} {φ : Int → F} (hc : CX F P A B φ) (t : Nat) (V : EP (φ A) (φ B)) (h : prT hc t (en V)) : prT hc t V := by
  obtain ⟨o, k, p⟩ := h
  exact ⟨o, ord_iv (gO_ab hc) k, p⟩
theorem lpC {N : Nat} (hN : 2 ^ 64 ≤ N) {F : Type} [mFld F] {P A B : Nat} {φ : Int → F} (hc : CX F P A B φ) {O t : Nat} (tP : t ≤ P) (t1 : t * t ≤ 4 * P) (t2 : 4 * P < (t + 1) * (t + 1)) (er : mX4_reachOf N (nI P) = some (nI t)) (O0 : 0 < O) (Ob : O ≤ 10298) (OC : O ∣ cnt P A B P) (kill : ∀ V, gm (gO hc) ez O V = ez) {pr : Int32} {gl : Nat → Int32} (ht : tabC pr gl) : ∃ u pr1 gl1, mX3_leastProver N pr gl (nI P) (nI A) (nI B) (nI O) = some (u, pr1, gl1) ∧ tabC pr1 gl1 ∧ fstP hc (prT hc t) u := by
  have hc0 := hc
  obtain ⟨hF, hp, h5, hP, hA, hB, -⟩ := hc0
  have ab := gO_ab hc
  have hs := cx_hasse hc
  unfold mX3_leastProver
  rcases prvC hP tP er O0 (by omega) with ⟨k, e⟩ | ⟨k, e⟩
  · rw [e]; simp only [Option.bind_some]; rw [if_neg (show ¬ (1 : Int32) = 0 by decide)]
    obtain ⟨o, eo, ho⟩ := mi_run_ok (mX3_leastProver_b15 N (nI P) (nI A) (nI B) (nI O)) (fun s => ∃ x, x ≤ P ∧ s.1 = nI x ∧ tabC s.2.1 s.2.2 ∧ hsT hc (prT hc t) x) (fun o => match o with | .inl s => tabC s.2.1 s.2.2 ∧ fstP hc (prT hc t) (-1) | .inr s => tabC s.2.1 s.2.2 ∧ fstP hc (prT hc t) s.1) (fun s => 20000 - s.1.toNatClampNeg) (by
      rintro ⟨x1, x2, x3⟩ ⟨x, hx, e1, tb, hist⟩
      have e1 : x1 = nI x := e1
      have tb : tabC x2 x3 := tb
      subst e1
      dsimp only [mX3_leastProver_b15, mi_let]
      by_cases c : P ≤ x
      · right
        rw [if_pos (nI_le c (by omega))]
        have : x = P := by omega
        subst this
        exact ⟨_, rfl, tb, hs_end hc hist⟩
      · rw [if_neg (nI_ge (by omega) (by omega))]
        have hxP : x < P := by omega
        have dn : 20000 - (nI x + 1).toNatClampNeg < 20000 - (nI x).toNatClampNeg := by rw [nI_1, nI_clamp (by omega), nI_clamp (by omega)]; omega
        obtain ⟨g', t', ql⟩ := lesserC (N := N) (by omega) h5 hP hA hB hxP tb
        rcases ql with ⟨ρ, hr, e⟩ | ⟨no, e⟩
        · rw [e]; simp only [Option.bind_some]
          have rP := hr.1
          obtain ⟨R, pR⟩ := isPt_pe hc (u := nI (16384 * x + ρ)) (Or.inr ⟨x, ρ, hxP, rP, rfl, hr.2.1⟩)
          obtain ⟨o, oo, od, eo⟩ := owC hc hN pR (n := O) O0 (by omega) (kill R)
          have ol := Nat.le_of_dvd O0 od
          rw [if_neg (pt_ne (by omega) (by omega)), eo]; simp only [Option.bind_some]
          rcases prvC hP tP er oo.1 (by omega) with ⟨k, e⟩ | ⟨k, e⟩
          · right
            rw [e]; simp only [Option.bind_some]; rw [if_neg (show ¬ (1 : Int32) = 0 by decide)]
            exact ⟨_, rfl, t', Or.inr ⟨x, ρ, R, hxP, hr, rfl, pR, ⟨o, oo, k⟩, hist⟩⟩
          · left
            rw [e]; simp only [Option.bind_some]; rw [if_pos trivial]
            refine ⟨_, rfl, ⟨x + 1, by omega, nI_1 x, t', hs_step hc (prT_sym hc t) hxP hr pR hist (fun z => ?_)⟩, dn⟩
            obtain ⟨o', oo', pv⟩ := z
            rw [ord_uniq ab oo' oo] at pv
            exact k pv
        · left
          rw [e]; simp only [Option.bind_some]; rw [if_pos trivial]
          exact ⟨_, rfl, ⟨x + 1, by omega, nI_1 x, t', hs_none hc hxP hist no⟩, dn⟩) N (0, pr, gl) ⟨0, by omega, rfl, ht, fun x' V Y hx' => by omega⟩ (by show 20000 - _ < N; omega)
    rw [eo]; simp only [Option.bind_some]
    rcases o with ⟨y6, y7, y8⟩ | ⟨z1, z2, z3⟩
    · exact ⟨_, _, _, rfl, ho.1, ho.2⟩
    · exact ⟨_, _, _, rfl, ho.1, ho.2⟩
  · rw [e]; simp only [Option.bind_some]; rw [if_pos trivial]
    refine ⟨_, _, _, rfl, ht, Or.inl ⟨rfl, fun V ne z => ?_⟩⟩
    obtain ⟨o, oo, pv⟩ := z
    have od := (ord_dvd ab oo O).mp (kill V)
    refine k (prv_up (C := cnt P A B P) tP ?_ ?_ oo.1 O0 od OC pv)
    · refine Nat.le_of_not_lt fun z => ?_
      have h1 : (t : Int) + 1 ≤ (P : Int) + 1 - cnt P A B P := by omega
      have h2 : ((t : Int) + 1) * ((t : Int) + 1) ≤ ((P : Int) + 1 - cnt P A B P) * ((P : Int) + 1 - cnt P A B P) := Int.mul_le_mul h1 h1 (by omega) (by omega)
      have h3 : (4 * (P : Int)) < ((t : Int) + 1) * ((t : Int) + 1) := by exact_mod_cast t2
      omega
    · refine Nat.le_of_not_lt fun z => ?_
      have h1 : (t : Int) + 1 ≤ (cnt P A B P : Int) - (P + 1) := by omega
      have h2 : ((t : Int) + 1) * ((t : Int) + 1) ≤ ((cnt P A B P : Int) - (P + 1)) * ((cnt P A B P : Int) - (P + 1)) := Int.mul_le_mul h1 h1 (by omega) (by omega)
      have h3 : (4 * (P : Int)) < ((t : Int) + 1) * ((t : Int) + 1) := by exact_mod_cast t2
      have h4 : ((P : Int) + 1 - cnt P A B P) * ((P : Int) + 1 - cnt P A B P) = ((cnt P A B P : Int) - (P + 1)) * ((cnt P A B P : Int) - (P + 1)) := by rw [← Int.neg_mul_neg, Int.neg_sub]
      omega
theorem lpR {F : Type} [mFld F] {P A B : Nat} {φ : Int → F} (hc : CX F P A B φ) {N : Nat} (hN : 2 ^ 64 ≤ N) {rt : Int32} {f g pts ah : Nat → Int32} (h : CU P A B (nI P) (nI A) (nI B) rt (nI (cnt P A B P)) f g pts ah) (hL : LK P A B P pts ah) {t : Nat} (tP : t ≤ P) (t0 : 0 < t) (er : mX6_least N (nI P) = some (nI (P + 1 - t))) (u5 : Int32) : ∃ o, mi_run (mX6_proof_b36 N (nI P) (nI A) (nI B) f g u5) N (0, nI (cnt P A B P), pts, ah) = some o ∧ (match o with | .inl s => fstP hc (prT hc t) (-1) ∧ s.2.1 = nI (cnt P A B P) ∧ s.2.2.1 = pts ∧ s.2.2.2 = ah | .inr z => ∃ u, fstP hc (prT hc t) u ∧ z = (u, nI P, nI A, nI B, u5, nI (cnt P A B P), f, g, pts, ah)) := by
  have cb := cnt_b h
  have ab := gO_ab hc
  obtain ⟨W, hW, al, few, W0⟩ := pl_ex hc hL
  refine mi_run_ok (mX6_proof_b36 N (nI P) (nI A) (nI B) f g u5) (fun s => ∃ k, k ≤ cnt P A B P ∧ s.1 = nI k ∧ s.2.1 = nI (cnt P A B P) ∧ s.2.2.1 = pts ∧ s.2.2.2 = ah ∧ ∀ i, 1 ≤ i → i < k → ¬ prT hc t (W i)) _ (fun s => 20000 - s.1.toNatClampNeg) ?_ N (0, nI (cnt P A B P), pts, ah) ⟨0, by omega, rfl, rfl, rfl, rfl, fun i hi => by omega⟩ (by show 20000 - _ < N; omega)
  rintro ⟨x1, x2, x3, x4⟩ ⟨k, hk, e1, e2, e3, e4, no⟩
  have e1 : x1 = nI k := e1
  have e2 : x2 = nI (cnt P A B P) := e2
  have e3 : x3 = pts := e3
  have e4 : x4 = ah := e4
  subst e1 e2 e3 e4
  dsimp only [mX6_proof_b36, mi_let]
  by_cases c : cnt P A B P ≤ k
  · right
    rw [if_pos (nI_le c (by omega))]
    have : k = cnt P A B P := by omega
    subst this
    exact ⟨_, rfl, fpR0 hc al W0 no, rfl, rfl, rfl⟩
  · have ix := ix_nI (k := k) (n := 10300) (by omega) (by omega)
    rw [nI_clamp (by omega)] at ix
    obtain ⟨o, oo⟩ := cx_ord hc (W k)
    rw [if_neg (nI_ge (by omega) (by omega)), nI_clamp (by omega), if_neg ix]
    rcases prvR hc hN h tP er (hW k (by omega)) oo with ⟨p, e⟩ | ⟨p, e⟩
    · right
      have k1 : 1 ≤ k := by
        rcases Nat.eq_zero_or_pos k with z | z
        · subst z
          rw [W0] at oo
          have : o = 1 := ord_uniq ab oo ⟨by omega, gm_e ab 1, fun i h0 hi => by omega⟩
          rw [this] at p
          exact absurd p (prv_1 tP t0)
        · exact z
      rw [e]; simp only [Option.bind_some]; rw [if_neg (show ¬ (1 : Int32) = 0 by decide), if_neg ix]
      exact ⟨_, rfl, x3 k, fpR hc hL hW al W0 (prT_sym hc t) k1 (by omega) ⟨o, oo, p⟩ no, rfl⟩
    · left
      rw [e]; simp only [Option.bind_some]; rw [if_pos trivial]
      refine ⟨_, rfl, ⟨k + 1, by omega, nI_1 k, rfl, rfl, rfl, fun i i1 hi => ?_⟩, ?_⟩
      · by_cases ik : i = k
        · subst ik
          rintro ⟨o', oo', p'⟩
          rw [ord_uniq ab oo' oo] at p'
          exact p p'
        · exact no i i1 (by omega)
      · show 20000 - (nI k + 1).toNatClampNeg < 20000 - k
        rw [nI_1, nI_clamp (by omega)]; omega
