theorem rs_cyc {K : Type} [mRng K] {f : Nat → K} {n : Nat} (k : ∀ j, f (j + n) = f j) (t : Nat) : rs n (fun j => f (t + j)) = rs n f := by
  induction t with
  | zero => exact rs_ext (fun j _ => by rw [Nat.zero_add])
  | succ t ih =>
    rw [← ih]
    have e1 := rs_shift (fun j => f (t + j)) n
    have e2 : rs (n + 1) (fun j => f (t + j)) = rs n (fun j => f (t + j)) + f (t + n) := rfl
    rw [e2, k t] at e1
    have e3 : rs n (fun j => f (t + (j + 1))) = rs n (fun j => f (t + 1 + j)) := rs_ext (fun j _ => by rw [show t + (j + 1) = t + 1 + j by omega])
    rw [e3] at e1
    have e4 : f (t + 0) = f t := by rw [Nat.add_zero]
    rw [e4] at e1
    grind
theorem sing_root {F : Type} [mFld F] {a b : F} (h2 : (2 : F) ≠ 0) (h3 : (3 : F) ≠ 0) (k : 4 * a * a * a + 27 * b * b = 0) : ∃ α, a = -3 * (α * α) ∧ b = 2 * (α * α * α) := by
  by_cases a0 : a = 0
  · have b0 : b = 0 := by
      rw [a0] at k
      have : 3 * (3 * (3 * (b * b))) = 0 := by grind
      rcases Lean.Grind.Field.of_mul_eq_zero this with w | w
      · exact absurd w h3
      · rcases Lean.Grind.Field.of_mul_eq_zero w with w | w
        · exact absurd w h3
        · rcases Lean.Grind.Field.of_mul_eq_zero w with w | w
          · exact absurd w h3
          · rcases Lean.Grind.Field.of_mul_eq_zero w with w | w <;> exact w
    exact ⟨0, by rw [a0]; grind, by rw [b0]; grind⟩
  · have t0 : 2 * a ≠ 0 := fun z => by
      rcases Lean.Grind.Field.of_mul_eq_zero z with w | w
      · exact h2 w
      · exact a0 w
    have hi := Lean.Grind.Field.mul_inv_cancel t0
    generalize (2 * a)⁻¹ = i at *
    refine ⟨-3 * b * i, ?_, ?_⟩
    · have e1 : -3 * (-3 * b * i * (-3 * b * i)) = - (27 * b * b) * (i * i) := by grind
      have e2 : 27 * b * b = - (4 * a * a * a) := by grind
      rw [e1, e2]
      have : - -(4 * a * a * a) * (i * i) = a * ((2 * a * i) * (2 * a * i)) := by grind
      rw [this, hi]; grind
    · have e1 : 2 * (-3 * b * i * (-3 * b * i) * (-3 * b * i)) = - (2 * b) * (27 * b * b) * (i * i * i) := by grind
      have e2 : 27 * b * b = - (4 * a * a * a) := by grind
      rw [e1, e2]
      have : -(2 * b) * -(4 * a * a * a) * (i * i * i) = b * ((2 * a * i) * (2 * a * i) * (2 * a * i)) := by grind
      rw [this, hi]; grind
theorem rl_z {K : Type} [mFld K] {a b x y e s g : K} (hP : y * y = x * x * x + a * x + b) (hS : s * s = e * e * e + a * e + b) (ne : e - x ≠ 0) (hg : g = 3 * e * e + a) :
    (((s - y) * (e - x)⁻¹) * ((s - y) * (e - x)⁻¹) - x - e - e) * ((x - e) * (x - e)) = g * (x - e) + (s * s + s * s) - (s * y + s * y) := by
  have hi := Lean.Grind.Field.mul_inv_cancel ne
  generalize (e - x)⁻¹ = i at *
  have e1 : (((s - y) * i) * ((s - y) * i) - x - e - e) * ((x - e) * (x - e)) = (s - y) * (s - y) * (((e - x) * i) * ((e - x) * i)) - (x + e + e) * ((x - e) * (x - e)) := by grind
  rw [e1, hi, hg]; grind
theorem velu_C {F : Type} [mFld F] {a b : F} {h2 : (2 : F) ≠ 0} {hns : 4 * a * a * a + 27 * b * b ≠ 0} {S : EP a b} {n : Nat} (o : isOrd (eo h2 hns) ez n S) (n1 : 2 ≤ n) {R : Type} [mRng R] {co : R → Nat → F} (h : isPol co) :
    vC h a b (a - 5 * vT1 (kG h2 hns S n) (n / 2)) (b - 7 * vT2 (fun i => kx h2 hns S (i + 1)) (kG h2 hns S n) (kV h2 hns S) (n / 2)) (fun i => kx h2 hns S (i + 1)) (kG h2 hns S n) (kV h2 hns S) (n / 2) = 0 := by
  obtain ⟨A, iA, j, y, u, v, c, K, iK, ι, g⟩ := gnp_ex h a b
  have hκ := gn_hom g
  have evx := gn_ev g
  have tr := gn_tr g
  have on0 := gn_on g
  obtain ⟨n2, nn⟩ := hom_ns hκ h2 hns
  have ab := ep_ab n2 nn
  have ab0 := ep_ab h2 hns
  have hx := ev_hom h hκ (ι (j (pX h)))
  let P : EP (ι (j (pC h a))) (ι (j (pC h b))) := ⟨some (ι (j (pX h)), ι y), on0⟩
  have pk_op : ∀ U T : EP a b, pk hκ (eo h2 hns U T) = eo n2 nn (pk hκ U) (pk hκ T) := fun U T => Subtype.ext (pm_ad hκ a U.1 T.1)
  have pk_en : ∀ U : EP a b, pk hκ (en U) = en (pk hκ U) := fun U => Subtype.ext (pm_ng hκ U.1)
  -- the generic point is none of the curve's own
  have Pn : ∀ U : EP a b, P ≠ pk hκ U := fun U e1 => by
    have e5 : some (ι (j (pX h)), ι y) = pm (fun z => ι (j (pC h z))) U.1 := congrArg Subtype.val e1
    cases hU : U.1 with
    | none => rw [hU] at e5; exact absurd (show some (ι (j (pX h)), ι y) = (none : Pt K) from e5) (by simp)
    | some U' =>
      rw [hU] at e5
      have e6 := congrArg Prod.fst (Option.some.inj (show some (ι (j (pX h)), ι y) = some (ι (j (pC h U'.1)), ι (j (pC h U'.2))) from e5))
      have e7 : ev h (fun z => ι (j (pC h z))) (ι (j (pX h))) (pX h - pC h U'.1) = 0 := by rw [hm_sub hx, ev_X h hκ, ev_C h hκ, show ι (j (pX h)) = ι (j (pC h U'.1)) from e6]; grind
      exact XC_ne h U'.1 (tr _ e7)
  have sP := vel_sum hκ n2 nn o (Q := P) (Q0 := (ι (j (pX h)), ι y)) rfl (fun i => Pn _)
  refine inv_zero g (M := n / 2) (e := fun i => kx h2 hns S (i + 1)) (by omega) (fun i k hi hk e1 => by have := k_dist o (i := i + 1) (j := k + 1) (by omega) (by omega) (by omega) (by omega) e1; omega) (vC_sz h a b _ _ _ _) (fun i hi => ?_)
  -- the point moved by S(i + 1)
  have Qn : ∀ U : EP a b, eo n2 nn P (pk hκ (gm (eo h2 hns) ez (i + 1) S)) ≠ pk hκ U := fun U e1 => by
    refine Pn (eo h2 hns U (en (gm (eo h2 hns) ez (i + 1) S))) ?_
    rw [pk_op, pk_en, ← e1, ab_sub ab]
  obtain ⟨Q0, hQ0⟩ : ∃ Q0, (eo n2 nn P (pk hκ (gm (eo h2 hns) ez (i + 1) S))).1 = some Q0 := by
    cases hQ : (eo n2 nn P (pk hκ (gm (eo h2 hns) ez (i + 1) S))).1 with
    | some Q => exact ⟨Q, rfl⟩
    | none => exact absurd (Subtype.ext hQ) (Qn ez)
  have sQ := vel_sum hκ n2 nn o hQ0 (fun t => Qn _)
  have mv : ∀ t, eo n2 nn (eo n2 nn P (pk hκ (gm (eo h2 hns) ez (i + 1) S))) (pk hκ (gm (eo h2 hns) ez t S)) = eo n2 nn P (pk hκ (gm (eo h2 hns) ez (i + 1 + t) S)) := fun t => by
    rw [ab.1, ← pk_op, ← gm_add ab0]
  have cyc : ∀ t, gm (eo h2 hns) ez (t + n) S = gm (eo h2 hns) ez t S := fun t => by rw [gm_add ab0, o.2.1, ab0.2.2.1]
  have ex : vX (fun z => ι (j (pC h z))) (fun i => kx h2 hns S (i + 1)) (kG h2 hns S n) (kV h2 hns S) (n / 2) Q0.1 = vX (fun z => ι (j (pC h z))) (fun i => kx h2 hns S (i + 1)) (kG h2 hns S n) (kV h2 hns S) (n / 2) (ι (j (pX h))) := by
    have e1 := sQ.2.1
    have e2 := sP.2.1
    simp only [mv] at e1
    rw [rs_cyc (f := fun t => xof (eo n2 nn P (pk hκ (gm (eo h2 hns) ez t S))).1) (fun t => by rw [cyc t]) (i + 1), e2] at e1
    grind
  have ey : Q0.2 * vY (fun z => ι (j (pC h z))) (fun i => kx h2 hns S (i + 1)) (kG h2 hns S n) (kV h2 hns S) (n / 2) Q0.1 = ι y * vY (fun z => ι (j (pC h z))) (fun i => kx h2 hns S (i + 1)) (kG h2 hns S n) (kV h2 hns S) (n / 2) (ι (j (pX h))) := by
    have e1 := sQ.2.2
    have e2 := sP.2.2
    simp only [mv] at e1
    rw [rs_cyc (f := fun t => yof (eo n2 nn P (pk hκ (gm (eo h2 hns) ez t S))).1) (fun t => by rw [cyc t]) (i + 1), e2] at e1
    exact e1.symm
  have oQ : onE (ι (j (pC h a))) (ι (j (pC h b))) (some Q0) := by rw [← hQ0]; exact (eo n2 nn P (pk hκ (gm (eo h2 hns) ez (i + 1) S))).2
  have vP := ev_vC h hκ a b (a - 5 * vT1 (kG h2 hns S n) (n / 2)) (b - 7 * vT2 (fun i => kx h2 hns S (i + 1)) (kG h2 hns S n) (kV h2 hns S) (n / 2)) (fun i => kx h2 hns S (i + 1)) (kG h2 hns S n) (kV h2 hns S) (n / 2) on0 sP.1
  have vQ := ev_vC h hκ a b (a - 5 * vT1 (kG h2 hns S n) (n / 2)) (b - 7 * vT2 (fun i => kx h2 hns S (i + 1)) (kG h2 hns S n) (kV h2 hns S) (n / 2)) (fun i => kx h2 hns S (i + 1)) (kG h2 hns S n) (kV h2 hns S) (n / 2) oQ sQ.1
  rw [ex, ey] at vQ
  rw [show ((ι (j (pX h)), ι y) : K × K).1 = ι (j (pX h)) from rfl, evx, evx] at vP
  have xne := sP.1 i hi
  have zne := sQ.1 i hi
  -- how near it is
  have hS := k_some o (i := i + 1) (by omega) (by omega)
  have hSon := k_on o (i := i + 1) (by omega) (by omega)
  have Q01 : Q0.1 = ((ι (j (pC h (ky h2 hns S (i + 1)))) - ι y) * (ι (j (pC h (kx h2 hns S (i + 1)))) - ι (j (pX h)))⁻¹) * ((ι (j (pC h (ky h2 hns S (i + 1)))) - ι y) * (ι (j (pC h (kx h2 hns S (i + 1)))) - ι (j (pX h)))⁻¹) - ι (j (pX h)) - ι (j (pC h (kx h2 hns S (i + 1)))) := by
    have e1 : (eo n2 nn P (pk hκ (gm (eo h2 hns) ez (i + 1) S))).1 = ad (ι (j (pC h a))) (some (ι (j (pX h)), ι y)) (some (ι (j (pC h (kx h2 hns S (i + 1)))), ι (j (pC h (ky h2 hns S (i + 1)))))) := by
      have hs' : (pk hκ (gm (eo h2 hns) ez (i + 1) S)).1 = some (ι (j (pC h (kx h2 hns S (i + 1)))), ι (j (pC h (ky h2 hns S (i + 1))))) := by
        show pm (fun z => ι (j (pC h z))) (gm (eo h2 hns) ez (i + 1) S).1 = _
        rw [hS]; rfl
      show ad (ι (j (pC h a))) P.1 (pk hκ (gm (eo h2 hns) ez (i + 1) S)).1 = _
      rw [hs']
    rw [ad_gen (fun z => xne z.1), hQ0] at e1
    have e2 := congrArg Prod.fst (Option.some.inj e1)
    have s1 : sl (ι (j (pC h a))) (ι (j (pX h)), ι y) (ι (j (pC h (kx h2 hns S (i + 1)))), ι (j (pC h (ky h2 hns S (i + 1))))) = (ι (j (pC h (ky h2 hns S (i + 1)))) - ι y) * (ι (j (pC h (kx h2 hns S (i + 1)))) - ι (j (pX h)))⁻¹ := if_neg xne
    rw [s1] at e2; exact e2
  have near : Vd g 1 (Q0.1 - ι (j (pC h (kx h2 hns S (i + 1))))) := by
    refine ⟨j (pC h (3 * kx h2 hns S (i + 1) * kx h2 hns S (i + 1) + a)) * j (pX h - pC h (kx h2 hns S (i + 1))) + j (pC h (ky h2 hns S (i + 1) * ky h2 hns S (i + 1) + ky h2 hns S (i + 1) * ky h2 hns S (i + 1))) + j (pC h (- (ky h2 hns S (i + 1) + ky h2 hns S (i + 1)))) * (y - j (pC h 0)), j (pX h - pC h (kx h2 hns S (i + 1))) * j (pX h - pC h (kx h2 hns S (i + 1))), ?_, ?_, Or.inr ?_⟩
    · intro k
      have := j_ne c (XC_ne h (kx h2 hns S (i + 1)))
      rcases cv_dom c k with k | k <;> exact this k
    · have k1 : ∀ x : F, ι (j (pC h (3 * x * x + a))) = 3 * ι (j (pC h x)) * ι (j (pC h x)) + ι (j (pC h a)) := fun x => by
        have := hm_add hκ (3 * x * x) a
        rw [hm_mul hκ, hm_mul hκ, hm_num hκ 3] at this; exact this
      have k2 : ∀ x : F, ι (j (pC h (x * x + x * x))) = ι (j (pC h x)) * ι (j (pC h x)) + ι (j (pC h x)) * ι (j (pC h x)) := fun x => by
        have := hm_add hκ (x * x) (x * x)
        rw [hm_mul hκ] at this; exact this
      have k3 : ∀ x : F, ι (j (pC h (- (x + x)))) = - (ι (j (pC h x)) + ι (j (pC h x))) := fun x => by
        have := hm_neg hκ (x + x)
        rw [hm_add hκ] at this; exact this
      have k4 : ι (j (pC h 0)) = 0 := hm_zero hκ
      rw [Q01, hm_mul g.1, hm_add g.1, hm_add g.1, hm_mul g.1, hm_mul g.1, hm_sub g.1 y, hm_sub c.1, hm_sub g.1, k1, k2, k3, k4]
      have oS := congrArg (fun z => ι (j (pC h z))) hSon
      simp only [hm_add hκ, hm_mul hκ] at oS
      have oP : ι y * ι y = ι (j (pX h)) * ι (j (pX h)) * ι (j (pX h)) + ι (j (pC h a)) * ι (j (pX h)) + ι (j (pC h b)) := on0
      have r := rl_z (g := 3 * ι (j (pC h (kx h2 hns S (i + 1)))) * ι (j (pC h (kx h2 hns S (i + 1)))) + ι (j (pC h a))) oP oS (fun z => xne (by show ι (j (pX h)) = ι (j (pC h (kx h2 hns S (i + 1)))); grind)) rfl
      rw [r]
      generalize ι (j (pC h (ky h2 hns S (i + 1)))) = s
      generalize ι y = yy
      grind
    · have w1 : dA c (j (pX h - pC h (kx h2 hns S (i + 1)))) = 2 := dA_x c _
      have w2 := dA_mul c (j_ne c (XC_ne h (kx h2 hns S (i + 1)))) (j_ne c (XC_ne h (kx h2 hns S (i + 1))))
      have lc : ∀ (k : F) (w : A) (d : Nat), dA c w ≤ d → dA c (j (pC h k) * w) ≤ d := fun k w d hw => by
        by_cases k0 : j (pC h k) = 0
        · rw [k0, show (0 : A) * w = 0 by grind]
          have : dA c (0 : A) = 0 := by rw [← hm_zero c.1, dA_j, sz_zero]
          omega
        · by_cases w0 : w = 0
          · rw [w0, show j (pC h k) * 0 = (0 : A) by grind]
            have : dA c (0 : A) = 0 := by rw [← hm_zero c.1, dA_j, sz_zero]
            omega
          · have h4 := dA_j c (pC h k)
            have := sz_Cle h k
            rw [dA_mul c k0 w0]; omega
      have w3 := lc (3 * kx h2 hns S (i + 1) * kx h2 hns S (i + 1) + a) (j (pX h - pC h (kx h2 hns S (i + 1)))) 3 (by omega)
      have w4 := lc (- (ky h2 hns S (i + 1) + ky h2 hns S (i + 1))) (y - j (pC h 0)) 3 (by rw [dA_y]; omega)
      have w5 : dA c (j (pC h (ky h2 hns S (i + 1) * ky h2 hns S (i + 1) + ky h2 hns S (i + 1) * ky h2 hns S (i + 1)))) ≤ 3 := by
        rw [dA_j]; have := sz_Cle h (ky h2 hns S (i + 1) * ky h2 hns S (i + 1) + ky h2 hns S (i + 1) * ky h2 hns S (i + 1)); omega
      have := dA_add c (dA_add c w3 w5) w4
      omega
  refine ⟨Q0.1 - ι (j (pC h (kx h2 hns S (i + 1)))), fun z => zne (by show Q0.1 = ι (j (pC h (kx h2 hns S (i + 1)))); grind), near, ?_⟩
  have q9 : ι (j (pC h (kx h2 hns S (i + 1)))) + (Q0.1 - ι (j (pC h (kx h2 hns S (i + 1))))) = Q0.1 := by grind
  rw [q9, vQ, vP]
  generalize ev h (fun z => ι (j (pC h z))) Q0.1 (pr h (fun i => kx h2 hns S (i + 1)) (n / 2)) ^ 6 = w1
  generalize ι (j (pr h (fun i => kx h2 hns S (i + 1)) (n / 2))) ^ 6 = w2
  grind
/-- the curve that a kernel makes isn't singular, where the kernel's order isn't 0 in the field -/
theorem velu_ns {F : Type} [mFld F] {a b : F} {h2 : (2 : F) ≠ 0} {hns : 4 * a * a * a + 27 * b * b ≠ 0} (h3 : (3 : F) ≠ 0) {S : EP a b} {n : Nat} (o : isOrd (eo h2 hns) ez n S) (hn : OfNat.ofNat (α := F) n ≠ 0) {a' b' : F}
    (ha : a' = a - 5 * rs (n - 1) (fun i => 3 * kx h2 hns S (i + 1) * kx h2 hns S (i + 1) + a)) (hb : b' = b - 7 * rs (n - 1) (fun i => 5 * (kx h2 hns S (i + 1) * kx h2 hns S (i + 1) * kx h2 hns S (i + 1)) + 3 * (a * kx h2 hns S (i + 1)) + 2 * b)) : 4 * a' * a' * a' + 27 * b' * b' ≠ 0 := by
  by_cases n1 : 2 ≤ n
  · intro k
    obtain ⟨α, e1, e2⟩ := sing_root h2 h3 k
    obtain ⟨R, iR, co, h⟩ := pol_ex F
    have C := velu_C o n1 h
    obtain ⟨t1, t2⟩ := k_T o
    rw [t1, t2, ← ha, ← hb, e1, e2] at C
    have := velu_sing h h2 hns (fun i k hi hk e1 => by have := k_dist o (i := i + 1) (j := k + 1) (by omega) (by omega) (by omega) (by omega) e1; omega) (fun i hi v0 => by
      have y0 : ky h2 hns S (i + 1) = 0 := by
        unfold kV at v0
        have : 2 * (2 * (ky h2 hns S (i + 1) * ky h2 hns S (i + 1))) = 0 := by rw [← v0]; grind
        rcases Lean.Grind.Field.of_mul_eq_zero this with w | w
        · exact absurd w h2
        · rcases Lean.Grind.Field.of_mul_eq_zero w with w | w
          · exact absurd w h2
          · rcases Lean.Grind.Field.of_mul_eq_zero w with w | w <;> exact w
      have q := (k_y0 o (i := i + 1) (by omega) (by omega)).mp y0
      have on := k_on o (i := i + 1) (by omega) (by omega)
      rw [y0] at on
      unfold kG
      rw [if_pos q]
      exact g_ne hns (by rw [← on]; grind)) C
    rw [k_mu o] at this
    exact hn this
  · have n1 : n = 1 := by have := o.1; omega
    subst n1
    have r0 : ∀ f : Nat → F, rs (1 - 1) f = 0 := fun _ => rfl
    rw [r0] at ha hb
    rw [ha, hb, show a - 5 * 0 = a by grind, show b - 7 * 0 = b by grind]; exact hns
