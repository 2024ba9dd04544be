noncomputable def pk {F K : Type} [mFld F] [mFld K] {κ : F → K} (hκ : isHom κ) {a b : F} (S : EP a b) : EP (κ a) (κ b) := ⟨pm κ S.1, pm_on hκ S.2⟩
theorem inv_sw {K : Type} [mFld K] (x ξ : K) : (ξ - x)⁻¹ = - (x - ξ)⁻¹ := by rw [← Lean.Grind.Field.inv_neg]; congr 1; grind
theorem rl_q1 {K : Type} [mFld K] {X G V i : K} {a x y : K} (hG : G = (3 * x * x + a) + (3 * x * x + a)) (hV : V = 4 * (y * y)) : X = x + x + ((3 * x * x + a) + (3 * x * x + a)) * (- i) + 4 * (y * y) * (i * i) → X = (x + x) + (G * (- i) + V * ((- i) * (- i))) := by
  intro h; rw [h, hG, hV]; grind
theorem rl_q2 {K : Type} [mFld K] {Y G V V2 i η : K} {a x y : K} (hG : G = (3 * x * x + a) + (3 * x * x + a)) (hV : V = 4 * (y * y)) (hV2 : V2 = V + V) : Y = - (η * (((3 * x * x + a) + (3 * x * x + a)) * (i * i) - 8 * (y * y) * (i * i * i))) → Y = - (η * (G * ((- i) * (- i)) + V2 * ((- i) * (- i) * (- i)))) := by
  intro h; rw [h, hG, hV2, hV]; grind
theorem vel_sum {F K : Type} [mFld F] [mFld K] {κ : F → K} (hκ : isHom κ) {a b : F} {h2 : (2 : F) ≠ 0} {hns : 4 * a * a * a + 27 * b * b ≠ 0} (n2 : (2 : K) ≠ 0) (nn : 4 * κ a * κ a * κ a + 27 * κ b * κ b ≠ 0) {S : EP a b} {n : Nat} (o : isOrd (eo h2 hns) ez n S) {Q : EP (κ a) (κ b)} {Q0 : K × K} (hQ : Q.1 = some Q0) (hq : ∀ i, Q ≠ pk hκ (gm (eo h2 hns) ez i S)) :
    (∀ i, i < n / 2 → Q0.1 ≠ κ (kx h2 hns S (i + 1))) ∧
    rs n (fun i => xof (eo n2 nn Q (pk hκ (gm (eo h2 hns) ez i S))).1) = vX κ (fun i => kx h2 hns S (i + 1)) (kG h2 hns S n) (kV h2 hns S) (n / 2) Q0.1 + rs (n - 1) (fun i => κ (kx h2 hns S (i + 1))) ∧
    rs n (fun i => yof (eo n2 nn Q (pk hκ (gm (eo h2 hns) ez i S))).1) = Q0.2 * vY κ (fun i => kx h2 hns S (i + 1)) (kG h2 hns S n) (kV h2 hns S) (n / 2) Q0.1 := by
  have hon : onE (κ a) (κ b) (some Q0) := by rw [← hQ]; exact Q.2
  have hon' : Q0.2 * Q0.2 = Q0.1 * Q0.1 * Q0.1 + κ a * Q0.1 + κ b := hon
  have n0 := o.1
  have pkS : ∀ i, 0 < i → i < n → (pk hκ (gm (eo h2 hns) ez i S)).1 = some (κ (kx h2 hns S i), κ (ky h2 hns S i)) := fun i h0 hi => by
    show pm κ (gm (eo h2 hns) ez i S).1 = _; rw [k_some o h0 hi]; rfl
  have xne : ∀ i, 0 < i → i < n → Q0.1 ≠ κ (kx h2 hns S i) := fun i h0 hi z => by
    have oS := (pk hκ (gm (eo h2 hns) ez i S)).2
    rw [pkS i h0 hi] at oS
    rcases x_same hon oS z with w | w
    · exact hq i (Subtype.ext (by rw [hQ, pkS i h0 hi, w]))
    · refine hq (n - i) (Subtype.ext ?_)
      rw [hQ, pkS (n - i) (by omega) (by omega), (k_negx o h0 hi).1, (k_negx o h0 hi).2, hm_neg hκ, w]; rfl
  have pt : ∀ i, 0 < i → i < n → xof (eo n2 nn Q (pk hκ (gm (eo h2 hns) ez i S))).1 = ((κ (ky h2 hns S i) - Q0.2) * (κ (kx h2 hns S i) - Q0.1)⁻¹) * ((κ (ky h2 hns S i) - Q0.2) * (κ (kx h2 hns S i) - Q0.1)⁻¹) - Q0.1 - κ (kx h2 hns S i) ∧
      yof (eo n2 nn Q (pk hκ (gm (eo h2 hns) ez i S))).1 = ((κ (ky h2 hns S i) - Q0.2) * (κ (kx h2 hns S i) - Q0.1)⁻¹) * (Q0.1 - (((κ (ky h2 hns S i) - Q0.2) * (κ (kx h2 hns S i) - Q0.1)⁻¹) * ((κ (ky h2 hns S i) - Q0.2) * (κ (kx h2 hns S i) - Q0.1)⁻¹) - Q0.1 - κ (kx h2 hns S i))) - Q0.2 := fun i h0 hi => by
    have e1 : (eo n2 nn Q (pk hκ (gm (eo h2 hns) ez i S))).1 = ad (κ a) (some Q0) (some (κ (kx h2 hns S i), κ (ky h2 hns S i))) := by
      show ad (κ a) Q.1 (pk hκ (gm (eo h2 hns) ez i S)).1 = _; rw [hQ, pkS i h0 hi]
    have ne := xne i h0 hi
    rw [e1, ad_gen (fun z => ne z.1)]
    have s1 : sl (κ a) Q0 (κ (kx h2 hns S i), κ (ky h2 hns S i)) = (κ (ky h2 hns S i) - Q0.2) * (κ (kx h2 hns S i) - Q0.1)⁻¹ := if_neg ne
    rw [s1]; exact ⟨rfl, rfl⟩
  have F0x : xof (eo n2 nn Q (pk hκ (gm (eo h2 hns) ez 0 S))).1 = Q0.1 := by
    have : eo n2 nn Q (pk hκ (gm (eo h2 hns) ez 0 S)) = Q := (ep_ab n2 nn).2.2.1 Q
    rw [this, hQ]; rfl
  have F0y : yof (eo n2 nn Q (pk hκ (gm (eo h2 hns) ez 0 S))).1 = Q0.2 := by
    have : eo n2 nn Q (pk hκ (gm (eo h2 hns) ez 0 S)) = Q := (ep_ab n2 nn).2.2.1 Q
    rw [this, hQ]; rfl
  -- a pair
  have onk : ∀ i, 0 < i → i < n → κ (ky h2 hns S i) * κ (ky h2 hns S i) = κ (kx h2 hns S i) * κ (kx h2 hns S i) * κ (kx h2 hns S i) + κ a * κ (kx h2 hns S i) + κ b := fun i h0 hi => by
    have := congrArg κ (k_on o h0 hi)
    rwa [hm_mul hκ, hm_add hκ, hm_add hκ, hm_mul hκ, hm_mul hκ, hm_mul hκ] at this
  have inv : ∀ i, 0 < i → i < n → (κ (kx h2 hns S i) - Q0.1) * (κ (kx h2 hns S i) - Q0.1)⁻¹ = 1 := fun i h0 hi => Lean.Grind.Field.mul_inv_cancel (fun z => xne i h0 hi (by grind))
  have kg : ∀ x : F, κ (3 * x * x + a) = 3 * κ x * κ x + κ a := fun x => by rw [hm_add hκ, hm_mul hκ, hm_mul hκ, hm_num hκ 3]
  have kv : ∀ i, κ (kV h2 hns S i) = 4 * (κ (ky h2 hns S (i + 1)) * κ (ky h2 hns S (i + 1))) := fun i => by unfold kV; rw [hm_mul hκ, hm_mul hκ, hm_num hκ 4]
  have px : ∀ i, 2 * (i + 1) < n → xof (eo n2 nn Q (pk hκ (gm (eo h2 hns) ez (i + 1) S))).1 + xof (eo n2 nn Q (pk hκ (gm (eo h2 hns) ez (n - (i + 1)) S))).1 = (κ (kx h2 hns S (i + 1)) + κ (kx h2 hns S (i + 1))) + (κ (kG h2 hns S n i) * (Q0.1 - κ (kx h2 hns S (i + 1)))⁻¹ + κ (kV h2 hns S i) * ((Q0.1 - κ (kx h2 hns S (i + 1)))⁻¹ * (Q0.1 - κ (kx h2 hns S (i + 1)))⁻¹)) ∧
      yof (eo n2 nn Q (pk hκ (gm (eo h2 hns) ez (i + 1) S))).1 + yof (eo n2 nn Q (pk hκ (gm (eo h2 hns) ez (n - (i + 1)) S))).1 = - (Q0.2 * (κ (kG h2 hns S n i) * ((Q0.1 - κ (kx h2 hns S (i + 1)))⁻¹ * (Q0.1 - κ (kx h2 hns S (i + 1)))⁻¹) + κ (kV h2 hns S i + kV h2 hns S i) * ((Q0.1 - κ (kx h2 hns S (i + 1)))⁻¹ * (Q0.1 - κ (kx h2 hns S (i + 1)))⁻¹ * (Q0.1 - κ (kx h2 hns S (i + 1)))⁻¹))) := fun i hi => by
    obtain ⟨n1, n2'⟩ := k_negx o (i := i + 1) (by omega) (by omega)
    have G1 : κ (kG h2 hns S n i) = (3 * κ (kx h2 hns S (i + 1)) * κ (kx h2 hns S (i + 1)) + κ a) + (3 * κ (kx h2 hns S (i + 1)) * κ (kx h2 hns S (i + 1)) + κ a) := by unfold kG; rw [if_neg (by omega), hm_add hκ, kg]
    rw [(pt (i + 1) (by omega) (by omega)).1, (pt (n - (i + 1)) (by omega) (by omega)).1, (pt (i + 1) (by omega) (by omega)).2, (pt (n - (i + 1)) (by omega) (by omega)).2, n1, n2', hm_neg hκ, inv_sw (κ (kx h2 hns S (i + 1))) Q0.1]
    exact ⟨rl_q1 G1 (kv i) (rl_px hon' (onk (i + 1) (by omega) (by omega)) (inv (i + 1) (by omega) (by omega))), rl_q2 G1 (kv i) (hm_add hκ _ _) (rl_py hon' (onk (i + 1) (by omega) (by omega)) (inv (i + 1) (by omega) (by omega)))⟩
  refine ⟨fun i hi => xne (i + 1) (by omega) (by omega), ?_⟩
  rcases (show n % 2 = 1 ∨ n % 2 = 0 by omega) with q | q
  · obtain ⟨k, hk⟩ : ∃ k, n = 2 * k + 1 := ⟨n / 2, by omega⟩
    subst hk
    rw [show (2 * k + 1) / 2 = k by omega, show 2 * k + 1 - 1 = 2 * k by omega, rs_shift, rs_shift, F0x, F0y, rs_fold0, rs_fold0, rs_fold0]
    unfold vX vY
    refine ⟨?_, ?_⟩
    · have e1 : rs k (fun i => xof (eo n2 nn Q (pk hκ (gm (eo h2 hns) ez (i + 1) S))).1 + xof (eo n2 nn Q (pk hκ (gm (eo h2 hns) ez (2 * k - 1 - i + 1) S))).1) = rs k (fun i => κ (kx h2 hns S (i + 1)) + κ (kx h2 hns S (2 * k - 1 - i + 1))) + rs k (fun i => κ (kG h2 hns S (2 * k + 1) i) * (Q0.1 - κ (kx h2 hns S (i + 1)))⁻¹ + κ (kV h2 hns S i) * ((Q0.1 - κ (kx h2 hns S (i + 1)))⁻¹ * (Q0.1 - κ (kx h2 hns S (i + 1)))⁻¹)) := by
        rw [← rs_add]
        refine rs_ext (fun i hi => ?_)
        rw [show 2 * k - 1 - i + 1 = 2 * k + 1 - (i + 1) by omega, (px i (by omega)).1, (k_negx o (i := i + 1) (by omega) (by omega)).1]
      rw [e1]; grind
    · have e1 : rs k (fun i => yof (eo n2 nn Q (pk hκ (gm (eo h2 hns) ez (i + 1) S))).1 + yof (eo n2 nn Q (pk hκ (gm (eo h2 hns) ez (2 * k - 1 - i + 1) S))).1) = - Q0.2 * rs k (fun i => κ (kG h2 hns S (2 * k + 1) i) * ((Q0.1 - κ (kx h2 hns S (i + 1)))⁻¹ * (Q0.1 - κ (kx h2 hns S (i + 1)))⁻¹) + κ (kV h2 hns S i + kV h2 hns S i) * ((Q0.1 - κ (kx h2 hns S (i + 1)))⁻¹ * (Q0.1 - κ (kx h2 hns S (i + 1)))⁻¹ * (Q0.1 - κ (kx h2 hns S (i + 1)))⁻¹)) := by
        rw [← rs_mul]
        refine rs_ext (fun i hi => ?_)
        rw [show 2 * k - 1 - i + 1 = 2 * k + 1 - (i + 1) by omega, (px i (by omega)).2]; grind
      rw [e1]; grind
  · obtain ⟨k, hk⟩ : ∃ k, n = 2 * (k + 1) := ⟨n / 2 - 1, by omega⟩
    subst hk
    have y0 := (k_y0 o (i := k + 1) (by omega) (by omega)).mpr rfl
    have on0 := onk (k + 1) (by omega) (by omega)
    have G1 : κ (kG h2 hns S (2 * (k + 1)) k) = 3 * κ (kx h2 hns S (k + 1)) * κ (kx h2 hns S (k + 1)) + κ a := by unfold kG; rw [if_pos rfl, kg]
    have V1 : κ (kV h2 hns S k) = 0 := by rw [kv, y0, hm_zero hκ]; grind
    have V2 : κ (kV h2 hns S k + kV h2 hns S k) = 0 := by rw [hm_add hκ, V1]; grind
    rw [y0, hm_zero hκ] at on0
    have on1 : 0 = κ (kx h2 hns S (k + 1)) * κ (kx h2 hns S (k + 1)) * κ (kx h2 hns S (k + 1)) + κ a * κ (kx h2 hns S (k + 1)) + κ b := by rw [← on0]; grind
    have iv1 := inv (k + 1) (by omega) (by omega)
    have sx : xof (eo n2 nn Q (pk hκ (gm (eo h2 hns) ez (k + 1) S))).1 = κ (kx h2 hns S (k + 1)) + κ (kG h2 hns S (2 * (k + 1)) k) * (Q0.1 - κ (kx h2 hns S (k + 1)))⁻¹ := by
      rw [(pt (k + 1) (by omega) (by omega)).1, y0, hm_zero hκ, G1, inv_sw (κ (kx h2 hns S (k + 1))) Q0.1, rl_px1 hon' on1 iv1]
    have sy : yof (eo n2 nn Q (pk hκ (gm (eo h2 hns) ez (k + 1) S))).1 = - (Q0.2 * (κ (kG h2 hns S (2 * (k + 1)) k) * ((Q0.1 - κ (kx h2 hns S (k + 1)))⁻¹ * (Q0.1 - κ (kx h2 hns S (k + 1)))⁻¹))) := by
      rw [(pt (k + 1) (by omega) (by omega)).2, y0, hm_zero hκ, G1, inv_sw (κ (kx h2 hns S (k + 1))) Q0.1, rl_py1 hon' on1 iv1]; grind
    have hx : rs (2 * (k + 1)) (fun i => xof (eo n2 nn Q (pk hκ (gm (eo h2 hns) ez i S))).1) = Q0.1 + rs (2 * k + 1) (fun i => xof (eo n2 nn Q (pk hκ (gm (eo h2 hns) ez (i + 1) S))).1) := by
      have := rs_shift (fun i => xof (eo n2 nn Q (pk hκ (gm (eo h2 hns) ez i S))).1) (2 * k + 1)
      rw [F0x] at this; exact this
    have hy : rs (2 * (k + 1)) (fun i => yof (eo n2 nn Q (pk hκ (gm (eo h2 hns) ez i S))).1) = Q0.2 + rs (2 * k + 1) (fun i => yof (eo n2 nn Q (pk hκ (gm (eo h2 hns) ez (i + 1) S))).1) := by
      have := rs_shift (fun i => yof (eo n2 nn Q (pk hκ (gm (eo h2 hns) ez i S))).1) (2 * k + 1)
      rw [F0y] at this; exact this
    rw [show (2 * (k + 1)) / 2 = k + 1 by omega, show 2 * (k + 1) - 1 = 2 * k + 1 by omega, hx, hy, rs_fold1, rs_fold1, rs_fold1, sx, sy]
    unfold vX vY
    refine ⟨?_, ?_⟩
    · have e1 : rs k (fun i => xof (eo n2 nn Q (pk hκ (gm (eo h2 hns) ez (i + 1) S))).1 + xof (eo n2 nn Q (pk hκ (gm (eo h2 hns) ez (2 * k - i + 1) S))).1) = rs k (fun i => κ (kx h2 hns S (i + 1)) + κ (kx h2 hns S (2 * k - i + 1))) + rs k (fun i => κ (kG h2 hns S (2 * (k + 1)) i) * (Q0.1 - κ (kx h2 hns S (i + 1)))⁻¹ + κ (kV h2 hns S i) * ((Q0.1 - κ (kx h2 hns S (i + 1)))⁻¹ * (Q0.1 - κ (kx h2 hns S (i + 1)))⁻¹)) := by
        rw [← rs_add]
        refine rs_ext (fun i hi => ?_)
        rw [show 2 * k - i + 1 = 2 * (k + 1) - (i + 1) by omega, (px i (by omega)).1, (k_negx o (i := i + 1) (by omega) (by omega)).1]
      rw [e1]
      show _ = Q0.1 + (rs k _ + (κ (kG h2 hns S (2 * (k + 1)) k) * (Q0.1 - κ (kx h2 hns S (k + 1)))⁻¹ + κ (kV h2 hns S k) * ((Q0.1 - κ (kx h2 hns S (k + 1)))⁻¹ * (Q0.1 - κ (kx h2 hns S (k + 1)))⁻¹))) + _
      rw [V1]; grind
    · have e1 : rs k (fun i => yof (eo n2 nn Q (pk hκ (gm (eo h2 hns) ez (i + 1) S))).1 + yof (eo n2 nn Q (pk hκ (gm (eo h2 hns) ez (2 * k - i + 1) S))).1) = - Q0.2 * rs k (fun i => κ (kG h2 hns S (2 * (k + 1)) i) * ((Q0.1 - κ (kx h2 hns S (i + 1)))⁻¹ * (Q0.1 - κ (kx h2 hns S (i + 1)))⁻¹) + κ (kV h2 hns S i + kV h2 hns S i) * ((Q0.1 - κ (kx h2 hns S (i + 1)))⁻¹ * (Q0.1 - κ (kx h2 hns S (i + 1)))⁻¹ * (Q0.1 - κ (kx h2 hns S (i + 1)))⁻¹)) := by
        rw [← rs_mul]
        refine rs_ext (fun i hi => ?_)
        rw [show 2 * k - i + 1 = 2 * (k + 1) - (i + 1) by omega, (px i (by omega)).2]; grind
      rw [e1]
      show _ = Q0.2 * (1 - (rs k _ + (κ (kG h2 hns S (2 * (k + 1)) k) * ((Q0.1 - κ (kx h2 hns S (k + 1)))⁻¹ * (Q0.1 - κ (kx h2 hns S (k + 1)))⁻¹) + κ (kV h2 hns S k + kV h2 hns S k) * ((Q0.1 - κ (kx h2 hns S (k + 1)))⁻¹ * (Q0.1 - κ (kx h2 hns S (k + 1)))⁻¹ * (Q0.1 - κ (kx h2 hns S (k + 1)))⁻¹))))
      rw [V2]; grind
