theorem dbl_x {F : Type} [mFld F] {a b x y X c l : F} (hc : y * y = c) (hl : l * (2 * y) = 3 * x * x + a) (hX : X = l * l - x - x) (hcub : c = x * x * x + a * x + b) : (x * x - a) * (x * x - a) - 8 * b * x - 4 * X * c = 0 := by
  have e1 : (l * (2 * y)) * (l * (2 * y)) = 4 * (l * l) * c := by rw [← hc]; grind
  rw [hl] at e1
  have e2 : l * l = X + x + x := by rw [hX]; grind
  rw [e2] at e1
  have e3 : (x * x - a) * (x * x - a) - 8 * b * x = (3 * x * x + a) * (3 * x * x + a) - 8 * x * (x * x * x + a * x + b) := by grind
  rw [e3, e1, hcub]; grind
theorem mayH {F : Type} [mFld F] {P A B : Nat} {φ : Int → F} (hc : CX F P A B φ) (N : Nat) {u : Int32} {U : EP (φ A) (φ B)} (hu : pe P φ u U.1) {x : Nat} (hx : x < P) : mX3_mayHalve N (nI P) (nI A) (nI B) (nI x) u = some 1 ∨ (mX3_mayHalve N (nI P) (nI A) (nI B) (nI x) u = some 0 ∧ ∀ (W : EP (φ A) (φ B)) (y : Nat), W.1 = some (φ x, φ y) → gO hc W W ≠ U) := by
  have hc0 := hc
  obtain ⟨hF, hp, h5, hP, hA, hB, -⟩ := hc0
  have h1 : 1 ≤ P := by omega
  have vl := cub_lt P A B x h1
  have hcub := gf_cub hF A B x
  unfold mX3_mayHalve
  rw [cubicC N h1 hP hA hB hx]; simp only [Option.bind_some]
  by_cases u0 : u = -1
  · rw [if_pos u0]
    have U0 : U.1 = none := (pe_none hP hu).mp u0
    by_cases c0 : nI (cub P A B x) = 0
    · rw [if_pos c0]; exact Or.inl rfl
    · rw [if_neg c0]
      refine Or.inr ⟨rfl, fun W y hW e => c0 ?_⟩
      have e1 : ad (φ A) W.1 W.1 = none := by rw [← U0, ← e]; rfl
      rw [hW] at e1
      have hW2 := W.2
      rw [hW] at hW2
      have hy : φ y + φ y = 0 := by
        by_cases k : φ x = φ x ∧ φ y + φ y = 0
        · exact k.2
        · rw [ad_gen k] at e1; cases e1
      have y0 : φ y = 0 := by
        have h2 := cx2 hc
        have : (2 : F) * φ y = 0 := by grind
        rcases Lean.Grind.Field.of_mul_eq_zero this with k | k
        · exact absurd k h2
        · exact k
      have on : φ y * φ y = φ x * φ x * φ x + φ A * φ x + φ B := hW2
      have : φ ((cub P A B x : Nat) : Int) = 0 := by
        rw [hcub]; unfold cb; rw [← on, y0]; grind
      have := gf_nat hF (a := cub P A B x) (b := 0) vl (by omega) (this.trans (hm_zero hF.1).symm)
      rw [this]; rfl
  · rw [if_neg u0, if_neg (nz_nI h1 hP)]
    rcases hu with ⟨e, -⟩ | ⟨X, Y, hX, hY, e, eU⟩
    · exact absurd e u0
    · have xx := mul_lt hx hx hP
      have bx := mul_lt hB hx hP
      have Xc := mul_lt hX vl hP
      obtain ⟨r4, e4, l4, g4, d4, -⟩ := rem_zI (z := (x : Int) * x - A) (P := P) h1 (by omega) (by rw [← Int.natCast_mul]; omega) (by rw [← Int.natCast_mul]; omega)
      have s4 : r4 * r4 ≤ 100120036 := by
        rcases Int.le_total 0 r4 with z | z
        · have : r4 * r4 ≤ 10006 * 10006 := Int.mul_le_mul (by omega) (by omega) z (by omega)
          omega
        · have : (-r4) * (-r4) ≤ 10006 * 10006 := Int.mul_le_mul (by omega) (by omega) (by omega) (by omega)
          rw [Int.neg_mul_neg] at this
          omega
      have s4' : 0 ≤ r4 * r4 := by
        rcases Int.le_total 0 r4 with z | z
        · exact Int.mul_nonneg z z
        · rw [← Int.neg_mul_neg]; exact Int.mul_nonneg (by omega) (by omega)
      have bx' : (8 * (B : Int)) * x = ((8 * (B * x) : Nat) : Int) := by push_cast; rw [Int.mul_assoc]
      have Xc' : (4 * (X : Int)) * (cub P A B x : Nat) = ((4 * (X * cub P A B x) : Nat) : Int) := by push_cast; rw [Int.mul_assoc]
      obtain ⟨r7, e7, l7, g7, d7, -⟩ := rem_zI (z := r4 * r4 - 8 * (B : Int) * x - 4 * (X : Int) * (cub P A B x : Nat)) (P := P) h1 (by omega) (by rw [bx', Xc']; omega) (by rw [bx', Xc']; omega)
      have ea : nI x * nI x - nI A = zI ((x : Int) * x - A) := by rw [nI_zI, nI_zI, zI_mul, zI_sub]
      have eb : zI r4 * zI r4 - 8 * nI B * nI x - 4 * nI X * nI (cub P A B x) = zI (r4 * r4 - 8 * (B : Int) * x - 4 * (X : Int) * (cub P A B x : Nat)) := by
        rw [nI_zI, nI_zI, nI_zI, nI_zI, show (8 : Int32) = zI 8 from rfl, show (4 : Int32) = zI 4 from rfl]
        simp only [zI_mul, zI_sub]
      dsimp only [mi_let]
      rw [ea, e4, e, (xOf_nI N (x := X) (y := Y) (by omega) (by omega)).1]; simp only [Option.bind_some]
      rw [if_neg (nz_nI h1 hP), eb, e7]
      by_cases c0 : zI r7 = 0
      · rw [if_pos c0]; exact Or.inl rfl
      · rw [if_neg c0]
        refine Or.inr ⟨rfl, fun W y hW eW => c0 ?_⟩
        have e1 : ad (φ A) W.1 W.1 = some (φ X, φ Y) := by rw [← eU, ← eW]; rfl
        rw [hW] at e1
        have hW2 := W.2
        rw [hW] at hW2
        have hy : ¬ (φ x = φ x ∧ φ y + φ y = 0) := fun k => by
          rw [ad_inv k.1 k.2] at e1; cases e1
        rw [ad_gen hy] at e1
        rcases (sl_line hW2 hW2 hy).2 with k | ⟨-, -, -, k⟩
        · exact absurd rfl k
        · have k1 : sl (φ A) (φ (x : Int), φ (y : Int)) (φ (x : Int), φ (y : Int)) * (2 * φ y) = 3 * φ x * φ x + φ A := k
          have k2 : φ X = sl (φ A) (φ (x : Int), φ (y : Int)) (φ (x : Int), φ (y : Int)) * sl (φ A) (φ (x : Int), φ (y : Int)) (φ (x : Int), φ (y : Int)) - φ x - φ x := (congrArg Prod.fst (Option.some.inj e1)).symm
          have k3 := dbl_x (b := φ B) (c := φ ((cub P A B x : Nat) : Int)) (show φ y * φ y = φ ((cub P A B x : Nat) : Int) by rw [hcub]; exact hW2) k1 k2 hcub
          have k4 : φ r4 = φ x * φ x - φ A := by
            have := (gf_eq hF ((x : Int) * x - A) r4).mpr d4
            rw [← this, hm_sub hF.1, hF.1.2.2]
          have k5 : φ (r4 * r4 - 8 * (B : Int) * x - 4 * (X : Int) * (cub P A B x : Nat)) = 0 := by
            have h8 : φ 8 = 8 := gf_num hF 8
            have h4 : φ 4 = 4 := gf_num hF 4
            rw [hm_sub hF.1, hm_sub hF.1, hF.1.2.2, hF.1.2.2, hF.1.2.2, hF.1.2.2, hF.1.2.2, k4, h8, h4]
            exact k3
          have k6 := (hF.2.1 _).mp k5
          have k7 : (P : Int) ∣ r7 := by
            have := Int.dvd_sub k6 d7
            rwa [Int.sub_sub_self] at this
          have k8 : r7 = 0 := by
            obtain ⟨q, hq⟩ := k7
            rcases Int.lt_trichotomy q 0 with z | z | z
            · have : (P : Int) * q ≤ P * (-1) := Int.mul_le_mul_of_nonneg_left (by omega) (by omega)
              omega
            · rw [hq, z]; omega
            · have : (P : Int) * 1 ≤ P * q := Int.mul_le_mul_of_nonneg_left (by omega) (by omega)
              omega
          rw [k8]; rfl
