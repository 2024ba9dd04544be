def iS (x0 : Nat) (X' X : Nat → Nat) : Nat → Int
  | 0 => x0
  | k + 1 => iS x0 X' X k + ((X' (k + 1) : Int) - X (k + 1))
theorem iS_b {x0 : Nat} {X' X : Nat → Nat} {P o : Nat} (hP : P ≤ 10007) (h0 : x0 < P) (h : ∀ k, 0 < k → k < o → X' k < P ∧ X k < P) : ∀ k, k < o → -(10007 * ((k : Int) + 1)) ≤ iS x0 X' X k ∧ iS x0 X' X k ≤ 10007 * ((k : Int) + 1)
  | 0, _ => by unfold iS; omega
  | k + 1, hk => by
    have ih := iS_b hP h0 h k (by omega)
    have hx := h (k + 1) (by omega) hk
    unfold iS
    push_cast
    omega
/-- a point that isn't of the kernel never meets it -/
theorem not_ker {G : Type} {op : G → G → G} {e : G} {iv : G → G} (h : isAb op e iv) {o : Nat} {K R : G} (oK : isOrd op e o K) (R0 : R ≠ e) : (∀ i, 0 < i → i < o → op R (gm op e i K) ≠ e) ↔ ¬ mult op e K R := by
  constructor
  · intro k m
    obtain ⟨j, hj, ej⟩ := mult_lt h oK m
    have j0 : 0 < j := Nat.pos_of_ne_zero fun z => R0 (by rw [ej, z]; rfl)
    refine k (o - j) (by omega) (by omega) ?_
    rw [ej, ← gm_add h, show j + (o - j) = o by omega]; exact oK.2.1
  · intro m i i0 hi k
    refine m ?_
    have : R = iv (gm op e i K) := ab_ivu h (by rw [h.2.1]; exact k)
    rw [this]
    exact (mult_sub h oK).2.2 _ ⟨i, rfl⟩
theorem imXY {F : Type} [mFld F] {P A B : Nat} {φ : Int → F} (hc : CX F P A B φ) (R K : EP (φ A) (φ B)) : ∃ X Y : Nat → Nat, ∀ k, gO hc R (gm (gO hc) ez k K) ≠ ez → X k < P ∧ Y k < P ∧ (gO hc R (gm (gO hc) ez k K)).1 = some (φ (X k : Nat), φ (Y k : Nat)) := by
  have ex : ∀ k, ∃ p : Nat × Nat, gO hc R (gm (gO hc) ez k K) ≠ ez → p.1 < P ∧ p.2 < P ∧ (gO hc R (gm (gO hc) ez k K)).1 = some (φ (p.1 : Nat), φ (p.2 : Nat)) := fun k => by
    rcases e : (gO hc R (gm (gO hc) ez k K)).1 with _ | ⟨X, Y⟩
    · exact ⟨(0, 0), fun z => absurd (Subtype.ext e) z⟩
    · obtain ⟨x, hx, ex⟩ := hc.1.2.2 X
      obtain ⟨y, hy, ey⟩ := hc.1.2.2 Y
      exact ⟨(x, y), fun _ => ⟨hx, hy, by rw [ex, ey]⟩⟩
  obtain ⟨f, hf⟩ := Classical.axiomOfChoice ex
  exact ⟨fun k => (f k).1, fun k => (f k).2, hf⟩
theorem imC {N : Nat} (hN : 2 ^ 64 ≤ N) {F : Type} [mFld F] {P A B : Nat} {φ : Int → F} (hc : CX F P A B φ) {u v : Int32} {R K : EP (φ A) (φ B)} (hu : pe P φ u R.1) (hv : pe P φ v K.1) {o : Nat} (oK : isOrd (gO hc) ez o K) (o4 : o ≤ 400) {X Y X' Y' : Nat → Nat} (hX : ∀ k, 0 < k → k < o → X k < P ∧ Y k < P ∧ (gm (gO hc) ez k K).1 = some (φ (X k : Nat), φ (Y k : Nat))) (hX' : ∀ k, gO hc R (gm (gO hc) ez k K) ≠ ez → X' k < P ∧ Y' k < P ∧ (gO hc R (gm (gO hc) ez k K)).1 = some (φ (X' k : Nat), φ (Y' k : Nat))) {x0 y0 : Nat} (hx0 : x0 < P) (hy0 : y0 < P) : ∃ o', mi_run (mX0_imageOf_b25 N (nI o) (nI P) (nI A) u v) N (nI x0, nI y0, v, 1) = some o' ∧ ((o' = .inr (-1) ∧ ∃ i, 0 < i ∧ i < o ∧ gO hc R (gm (gO hc) ez i K) = ez) ∨ ((∀ i, 0 < i → i < o → gO hc R (gm (gO hc) ez i K) ≠ ez) ∧ ∃ y3 y4, o' = .inl (zI (iS x0 X' X (o - 1)), zI (iS y0 Y' Y (o - 1)), y3, y4))) := by
  have ab := gO_ab hc
  have hc0 := hc
  obtain ⟨hF, hp, h5, hP, hA, hB, -⟩ := hc0
  have o0 := oK.1
  refine mi_run_ok (mX0_imageOf_b25 N (nI o) (nI P) (nI A) u v) (fun st => ∃ k, st.2.2.2 = nI k ∧ 0 < k ∧ k ≤ o ∧ pe P φ st.2.2.1 (gm (gO hc) ez k K).1 ∧ (∀ i, 0 < i → i < k → gO hc R (gm (gO hc) ez i K) ≠ ez) ∧ st.1 = zI (iS x0 X' X (k - 1)) ∧ st.2.1 = zI (iS y0 Y' Y (k - 1))) _ (fun st => 1000 - st.2.2.2.toNatClampNeg) ?_ N (nI x0, nI y0, v, 1) ⟨1, rfl, by omega, by omega, by rw [gm_1 ab]; exact hv, fun i i0 hi => by omega, rfl, rfl⟩ (by show 1000 - _ < N; omega)
  rintro ⟨x1, x2, x3, x4⟩ ⟨k, e4, k0, ko, p3, no, e1, e2⟩
  have e1 : x1 = zI (iS x0 X' X (k - 1)) := e1
  have e2 : x2 = zI (iS y0 Y' Y (k - 1)) := e2
  have e4 : x4 = nI k := e4
  have p3 : pe P φ x3 (gm (gO hc) ez k K).1 := p3
  subst e1 e2 e4
  dsimp only [mX0_imageOf_b25, mi_let]
  by_cases c : o ≤ k
  · right
    rw [if_pos (nI_le c (by omega))]
    have : k = o := by omega
    subst this
    exact ⟨_, rfl, Or.inr ⟨no, _, _, rfl⟩⟩
  · rw [if_neg (nI_ge (by omega) (by omega))]
    obtain ⟨w, ew, pw⟩ := sumCe hc N (by omega) hu p3
    obtain ⟨w2, ew2, pw2⟩ := sumCe hc N (by omega) p3 hv
    have wn : w = -1 ↔ gO hc R (gm (gO hc) ez k K) = ez := (pe_none hP pw).trans ⟨fun z => Subtype.ext z, fun z => by rw [z]; rfl⟩
    rw [ew]; simp only [Option.bind_some]
    by_cases c1 : w = -1
    · right
      rw [if_pos c1]
      exact ⟨_, rfl, Or.inl ⟨rfl, k, k0, by omega, wn.mp c1⟩⟩
    · left
      have ne : gO hc R (gm (gO hc) ez k K) ≠ ez := fun z => c1 (wn.mpr z)
      obtain ⟨hXk, hYk, ek⟩ := hX k k0 (by omega)
      obtain ⟨hXk', hYk', ek'⟩ := hX' k ne
      have ex : x3 = nI (16384 * X k + Y k) := pe_xy hF hXk hYk p3 ek
      have ex' : w = nI (16384 * X' k + Y' k) := pe_xy hF hXk' hYk' pw ek'
      rw [if_neg c1, ew2, ex, ex', (xOf_nI N (x := X k) (y := Y k) (by omega) (by omega)).1, (xOf_nI N (x := X k) (y := Y k) (by omega) (by omega)).2, (xOf_nI N (x := X' k) (y := Y' k) (by omega) (by omega)).1, (xOf_nI N (x := X' k) (y := Y' k) (by omega) (by omega)).2]; simp only [Option.bind_some]
      rw [nI_zI (X k), nI_zI (X' k), nI_zI (Y k), nI_zI (Y' k), zI_sub, zI_sub, zI_add, zI_add]
      refine ⟨_, rfl, ⟨k + 1, nI_1 k, by omega, by omega, pw2, fun i i0 hi => ?_, ?_, ?_⟩, ?_⟩
      · by_cases ik : i = k
        · subst ik; exact ne
        · exact no i i0 (by omega)
      · rw [show k + 1 - 1 = (k - 1) + 1 by omega]
        show _ = zI (iS x0 X' X (k - 1) + ((X' (k - 1 + 1) : Int) - X (k - 1 + 1)))
        rw [show k - 1 + 1 = k by omega]
      · rw [show k + 1 - 1 = (k - 1) + 1 by omega]
        show _ = zI (iS y0 Y' Y (k - 1) + ((Y' (k - 1 + 1) : Int) - Y (k - 1 + 1)))
        rw [show k - 1 + 1 = k by omega]
      · show 1000 - (nI k + 1).toNatClampNeg < 1000 - (nI k).toNatClampNeg
        rw [nI_1, nI_clamp (by omega), nI_clamp (by omega)]; omega
theorem l_sub {x y : Nat} (hx : x < 16384) (hy : y < 16384) : ((nI x - nI y).toInt64).toInt = (x : Int) - y := by
  rw [Int32.toInt_toInt64, nI_zI, nI_zI, zI_sub, zI_toInt (by omega) (by omega)]
theorem imR {N : Nat} (hN : 2 ^ 64 ≤ N) {F : Type} [mFld F] {P A B : Nat} {φ : Int → F} (hc : CX F P A B φ) {f : Nat → Int32} (hf : invOK P f) {u v : Int32} {R K : EP (φ A) (φ B)} (hu : pe P φ u R.1) (hv : pe P φ v K.1) {o : Nat} (oK : isOrd (gO hc) ez o K) (o4 : o ≤ 400) {X Y X' Y' : Nat → Nat} (hX : ∀ k, 0 < k → k < o → X k < P ∧ Y k < P ∧ (gm (gO hc) ez k K).1 = some (φ (X k : Nat), φ (Y k : Nat))) (hX' : ∀ k, gO hc R (gm (gO hc) ez k K) ≠ ez → X' k < P ∧ Y' k < P ∧ (gO hc R (gm (gO hc) ez k K)).1 = some (φ (X' k : Nat), φ (Y' k : Nat))) {x0 y0 : Nat} (hx0 : x0 < P) (hy0 : y0 < P) {D : Nat} (hD : D < 24) {ko kp : Nat → Int32} (eko : ko D = nI o) (ekp : kp D = v) (b u12 u13 : Int32) (g : Nat → Int32) : ∃ o', mi_run (mX6_image_b83 N (nI D) ko u (nI P) (nI A) b u12 u13 f g kp) N ((nI x0).toInt64, (nI y0).toInt64, v, 1) = some o' ∧ ((o' = .inr (-1, nI P, nI A, b, u12, u13, f, g) ∧ ∃ i, 0 < i ∧ i < o ∧ (gm (gO hc) ez i K = R ∨ gO hc R (gm (gO hc) ez i K) = ez)) ∨ ((∀ i, 0 < i → i < o → gO hc R (gm (gO hc) ez i K) ≠ ez) ∧ ∃ y1 y2 y3 y4, o' = .inl (y1, y2, y3, y4) ∧ y1.toInt = iS x0 X' X (o - 1) ∧ y2.toInt = iS y0 Y' Y (o - 1))) := by
  have ab := gO_ab hc
  have hc0 := hc
  obtain ⟨hF, hp, h5, hP, hA, hB, -⟩ := hc0
  have o0 := oK.1
  refine mi_run_ok (mX6_image_b83 N (nI D) ko u (nI P) (nI A) b u12 u13 f g kp) (fun st => ∃ k, st.2.2.2 = nI k ∧ 0 < k ∧ k ≤ o ∧ pe P φ st.2.2.1 (gm (gO hc) ez k K).1 ∧ (∀ i, 0 < i → i < k → gO hc R (gm (gO hc) ez i K) ≠ ez) ∧ st.1.toInt = iS x0 X' X (k - 1) ∧ st.2.1.toInt = iS y0 Y' Y (k - 1)) _ (fun st => 1000 - st.2.2.2.toNatClampNeg) ?_ N ((nI x0).toInt64, (nI y0).toInt64, v, 1) ⟨1, rfl, by omega, by omega, by rw [gm_1 ab]; exact hv, fun i i0 hi => by omega, nIl_toInt (by omega), nIl_toInt (by omega)⟩ (by show 1000 - _ < N; omega)
  rintro ⟨x1, x2, x3, x4⟩ ⟨k, e4, k0, ko', p3, no, e1, e2⟩
  have e1 : x1.toInt = iS x0 X' X (k - 1) := e1
  have e2 : x2.toInt = iS y0 Y' Y (k - 1) := e2
  have e4 : x4 = nI k := e4
  have p3 : pe P φ x3 (gm (gO hc) ez k K).1 := p3
  subst e4
  have hix : ¬ (nI D < 0 ∨ 24 ≤ (nI D).toNatClampNeg) := ix_nI hD (by omega)
  dsimp only [mX6_image_b83, mi_let]
  simp only [if_neg hix]
  rw [nI_clamp (n := D) (by omega), eko, ekp]
  by_cases c : o ≤ k
  · right
    rw [if_pos (nI_le c (by omega))]
    have : k = o := by omega
    subst this
    exact ⟨_, rfl, Or.inr ⟨no, x1, x2, x3, nI k, rfl, e1, e2⟩⟩
  · rw [if_neg (nI_ge (by omega) (by omega))]
    by_cases cq : x3 = u
    · right
      rw [if_pos cq]
      refine ⟨_, rfl, Or.inl ⟨rfl, k, k0, by omega, Or.inl ?_⟩⟩
      rw [cq] at p3
      exact Subtype.ext (pe_un hP p3 hu)
    · obtain ⟨w, ew, pw⟩ := sumRe hc N hf hu p3
      obtain ⟨w2, ew2, pw2⟩ := sumRe hc N hf p3 hv
      have wn : w = -1 ↔ gO hc R (gm (gO hc) ez k K) = ez := (pe_none hP pw).trans ⟨fun z => Subtype.ext z, fun z => by rw [z]; rfl⟩
      rw [if_neg cq, ew]; simp only [Option.bind_some]
      by_cases c1 : w = -1
      · right
        rw [if_pos c1]
        exact ⟨_, rfl, Or.inl ⟨rfl, k, k0, by omega, Or.inr (wn.mp c1)⟩⟩
      · left
        have ne : gO hc R (gm (gO hc) ez k K) ≠ ez := fun z => c1 (wn.mpr z)
        obtain ⟨hXk, hYk, ek⟩ := hX k k0 (by omega)
        obtain ⟨hXk', hYk', ek'⟩ := hX' k ne
        have ex : x3 = nI (16384 * X k + Y k) := pe_xy hF hXk hYk p3 ek
        have ex' : w = nI (16384 * X' k + Y' k) := pe_xy hF hXk' hYk' pw ek'
        have ps := pt_split (x := X k) (y := Y k) (by omega) (by omega)
        have ps' := pt_split (x := X' k) (y := Y' k) (by omega) (by omega)
        have no' : ∀ i, 0 < i → i < k + 1 → gO hc R (gm (gO hc) ez i K) ≠ ez := fun i i0 hi => by
          by_cases ik : i = k
          · subst ik; exact ne
          · exact no i i0 (by omega)
        have bx := iS_b (x0 := x0) (X' := X') (X := X) (o := k) hP hx0 (fun i i0 hi => ⟨(hX' i (no i i0 hi)).1, (hX i i0 (by omega)).1⟩) (k - 1) (by omega)
        have by' := iS_b (x0 := y0) (X' := Y') (X := Y) (o := k) hP hy0 (fun i i0 hi => ⟨(hX' i (no i i0 hi)).2.1, (hX i i0 (by omega)).2.1⟩) (k - 1) (by omega)
        rw [if_neg c1, ew2, ex, ex', ps.1, ps.2, ps'.1, ps'.2]; simp only [Option.bind_some]
        refine ⟨_, rfl, ⟨k + 1, nI_1 k, by omega, by omega, pw2, no', ?_, ?_⟩, ?_⟩
        · rw [show k + 1 - 1 = (k - 1) + 1 by omega]
          show (x1 + (nI (X' k) - nI (X k)).toInt64).toInt = iS x0 X' X (k - 1) + ((X' (k - 1 + 1) : Int) - X (k - 1 + 1))
          rw [show k - 1 + 1 = k by omega, Int64.toInt_add, l_sub (by omega) (by omega), e1]
          exact Int.bmod_eq_of_le (by omega) (by omega)
        · rw [show k + 1 - 1 = (k - 1) + 1 by omega]
          show (x2 + (nI (Y' k) - nI (Y k)).toInt64).toInt = iS y0 Y' Y (k - 1) + ((Y' (k - 1 + 1) : Int) - Y (k - 1 + 1))
          rw [show k - 1 + 1 = k by omega, Int64.toInt_add, l_sub (by omega) (by omega), e2]
          exact Int.bmod_eq_of_le (by omega) (by omega)
        · show 1000 - (nI k + 1).toNatClampNeg < 1000 - (nI k).toNatClampNeg
          rw [nI_1, nI_clamp (by omega), nI_clamp (by omega)]; omega
theorem V_image {N : Nat} (hN : 2 ^ 64 ≤ N) {P A B : Nat} {p a b rt pm cu : Int32} {f g pts ah ps as bs : Nat → Int32} {c : Int32} {pm1 : Int32} {f1 g1 : Nat → Int32} (hh : mX6_has N p a b rt pm cu f g ps as bs c = some (1, nI P, nI A, nI B, nI P, pm1, f1, g1)) (hU : CU P A B (nI P) (nI A) (nI B) (nI P) pm1 f1 g1 pts ah) (hd : disc P A B ≠ 0) {n D : Nat} (hn : n ≤ 24) (ec : cu = nI n) (hD : D < n) (fr kp ko : Nat → Int32) {v : Int32} {o : Nat} (efr : fr D = c) (fr0 : ¬ c = -1) (ekp : kp D = v) (eko : ko D = nI o) (o4 : o ≤ 400) (hko : isKo P A B v o) (u : Int32) : ∃ r, mX5_image_st N v (nI o) (nI P) (nI A) (nI B) (nI D) u = some r ∧ mX6_image N p a b rt pm cu f g ps as bs fr kp ko (nI D) u = some (r, nI P, nI A, nI B, nI P, pm1, f1, g1) := by
  obtain ⟨h1, hP, h5, hp, hA, hB⟩ := hU.pos
  have hix : ¬ (nI D < 0 ∨ 24 ≤ (nI D).toNatClampNeg) := ix_nI (by omega) (by omega)
  have hin : mX6_in N (nI D).toInt64 0 ((cu - 1).toInt64) = some 1 := by
    rw [inE]
    congr 1
    have k : ¬ inF (nI D).toInt64 0 ((cu - 1).toInt64) = 0 := fun z => by
      rw [in_ix, ec, sub1_toInt (n := n) (by omega) (by omega), nI_toInt (by omega), show (0 : Int64).toInt = 0 by decide] at z
      omega
    unfold inF at *
    split
    · rfl
    · rename_i w; rw [if_neg w] at k; exact absurd rfl k
  unfold mX5_image_st mX6_image
  rw [hin]; simp only [Option.bind_some]
  rw [if_neg (show ¬ (1 : Int32) = 0 by decide)]; dsimp only [mi_let]
  simp only [if_neg hix]
  rw [nI_clamp (n := D) (by omega), efr, if_neg fr0, hh]; simp only [Option.bind_some]
  rw [if_neg (show ¬ (1 : Int32) = 0 by decide)]
  rcases holds2 N h1 hP hA hB u with ⟨kq, e1, e2⟩ | ⟨e1, e2⟩
  · rw [e1, e2]; simp only [Option.bind_some]; rw [if_neg (show ¬ (1 : Int32) = 0 by decide), if_neg (show ¬ (1 : Int32) = 0 by decide)]
    unfold mX0_imageOf
    by_cases u0 : u = -1
    · rw [if_pos u0, if_pos u0, u0]; exact ⟨_, rfl, rfl⟩
    · rw [if_neg u0, if_neg u0]
      obtain ⟨F, i, φ, hc⟩ := cx_ex hp h5 hP hA hB hd
      have ab := gO_ab hc
      obtain ⟨R, hu⟩ := isPt_pe hc kq
      obtain ⟨K, hv⟩ := isPt_pe hc hko.1
      have oK := hko.2 F i φ hc K hv
      obtain ⟨X, Y, hX⟩ := xy_ex hc oK
      obtain ⟨X', Y', hX'⟩ := imXY hc R K
      have R0 : R ≠ ez := fun z => u0 ((pe_none hP hu).mpr (by rw [z]; rfl))
      rcases hu' : hu with ⟨e, -⟩ | ⟨x0, y0, hx0, hy0, e, -⟩
      · exact absurd e u0
      · obtain ⟨o', eo, ho⟩ := imC hN hc hu hv oK o4 hX hX' hx0 hy0
        obtain ⟨w', ew, hw⟩ := imR hN hc hU.invs hu hv oK o4 hX hX' hx0 hy0 (D := D) (by omega) eko ekp (nI B) (nI P) pm1 g1
        have nk := not_ker ab oK R0
        have x1 := (xOf_nI N (x := x0) (y := y0) (by omega) (by omega))
        have x2 := pt_split (x := x0) (y := y0) (by omega) (by omega)
        rw [← e] at x1 x2
        rw [x1.1, x1.2, x2.1, x2.2, ekp]; simp only [Option.bind_some]; rw [eo, ew]; simp only [Option.bind_some]
        rcases ho with ⟨h1', i1, i10, i1o, hi1⟩ | ⟨no, y3, y4, h1'⟩
        · subst h1'
          have m : mult (gO hc) ez K R := Classical.byContradiction fun z => nk.mpr z i1 i10 i1o hi1
          rcases hw with ⟨h2', -⟩ | ⟨no, -⟩
          · subst h2'; exact ⟨_, rfl, rfl⟩
          · exact absurd m (nk.mp no)
        · subst h1'
          have nm := nk.mp no
          rcases hw with ⟨-, i2, i20, i2o, hi2⟩ | ⟨-, z1, z2, z3, z4, h2', ez1, ez2⟩
          · exfalso
            rcases hi2 with hi2 | hi2
            · exact nm ⟨i2, hi2.symm⟩
            · exact no i2 i20 i2o hi2
          · subst h2'
            have o0 := oK.1
            have bx := iS_b (x0 := x0) (X' := X') (X := X) (o := o) hP hx0 (fun i i0 hi => ⟨(hX' i (no i i0 hi)).1, (hX i i0 (by omega)).1⟩) (o - 1) (by omega)
            have by' := iS_b (x0 := y0) (X' := Y') (X := Y) (o := o) hP hy0 (fun i i0 hi => ⟨(hX' i (no i i0 hi)).2.1, (hX i i0 (by omega)).2.1⟩) (o - 1) (by omega)
            have l1 : (iS x0 X' X (o - 1) % (P : Int)).toNat < P := by
              have := Int.emod_lt_of_pos (iS x0 X' X (o - 1)) (show (0 : Int) < P by omega)
              have := Int.emod_nonneg (iS x0 X' X (o - 1)) (show (P : Int) ≠ 0 by omega)
              omega
            have l2 : (iS y0 Y' Y (o - 1) % (P : Int)).toNat < P := by
              have := Int.emod_lt_of_pos (iS y0 Y' Y (o - 1)) (show (0 : Int) < P by omega)
              have := Int.emod_nonneg (iS y0 Y' Y (o - 1)) (show (P : Int) ≠ 0 by omega)
              omega
            dsimp only
            rw [modE N h1 hP, modE N h1 hP, fmod_spec N (by omega) (by omega) (by omega) (by omega), fmod_spec N (by omega) (by omega) (by omega) (by omega)]; simp only [Option.bind_some]
            have m1 : modF P z1 = (iS x0 X' X (o - 1) % (P : Int)).toNat := by unfold modF; rw [ez1]
            have m2 : modF P z2 = (iS y0 Y' Y (o - 1) % (P : Int)).toNat := by unfold modF; rw [ez2]
            rw [m1, m2, pair_nI N (by omega) (by omega), ptz hP l1 l2]
            exact ⟨_, rfl, rfl⟩
  · rw [e1, e2]; exact ⟨_, rfl, rfl⟩
