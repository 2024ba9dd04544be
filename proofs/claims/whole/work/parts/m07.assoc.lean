/-! words in a ring -/
theorem rl_N {A : Type} [mRng A] {y X X1 Y1 X2 X3 S a b : A} (E : y * y = X * X * X + a * X + b) (k1 : X3 = S * S - X1 - X2) (k4 : X1 * X2 + (X1 + X2) * X3 = a - 2 * S * (Y1 - S * X1)) (k5 : X1 * X2 * X3 = (Y1 - S * X1) * (Y1 - S * X1) - b) : (y - (S * (X - X1) + Y1)) * (y + (S * (X - X1) + Y1)) = (X - X1) * (X - X2) * (X - X3) := by grind
theorem rl_l1 {A : Type} [mRng A] {y X X1 Y1 X2 Y2 S i : A} (hi : i * (X2 - X1) = 1) (k3 : Y2 = Y1 + S * (X2 - X1)) : i * ((X - X1) * (y - Y2) - S * ((X - X1) * (X - X2)) - ((y - Y1) * (X - X2) - S * ((X - X1) * (X - X2)))) = y - (S * (X - X1) + Y1) := by
  have : (X - X1) * (y - Y2) - S * ((X - X1) * (X - X2)) - ((y - Y1) * (X - X2) - S * ((X - X1) * (X - X2))) = (X2 - X1) * (y - (S * (X - X1) + Y1)) := by rw [k3]; grind
  rw [this]
  generalize y - (S * (X - X1) + Y1) = z
  grind
theorem rl_l2 {A : Type} [mRng A] {y X X1 Y1 S i a b : A} (hi : i * (2 * Y1) = 1) (d4 : S * (2 * Y1) = 3 * X1 * X1 + a) (E : y * y = X * X * X + a * X + b) (K : Y1 * Y1 = X1 * X1 * X1 + a * X1 + b) : i * ((X + 2 * X1) * ((X - X1) * (X - X1)) - (y - Y1) * (y - Y1)) = y - (S * (X - X1) + Y1) := by
  have : (X + 2 * X1) * ((X - X1) * (X - X1)) - (y - Y1) * (y - Y1) = 2 * Y1 * (y - (S * (X - X1) + Y1)) := by grind
  rw [this]
  generalize y - (S * (X - X1) + Y1) = z
  grind
theorem rl_lb {A : Type} [mRng A] {y X X1 Y1 X3 Y3 S : A} (k2 : Y3 = S * (X1 - X3) - Y1) : y - Y3 + S * (X - X3) = y + (S * (X - X1) + Y1) := by grind
theorem rl_s {A : Type} [mRng A] {y X X1 Y1 X2 X3 Y3 S β γ : A} (N : (y - (S * (X - X1) + Y1)) * (y + (S * (X - X1) + Y1)) = (X - X1) * (X - X2) * (X - X3)) (k2 : Y3 = S * (X1 - X3) - Y1) : (y - (S * (X - X1) + Y1)) * ((X - X3) * β + (y - Y3) * γ) = (X - X3) * (β * (y - (S * (X - X1) + Y1)) + γ * ((X - X1) * (X - X2) - S * (y - (S * (X - X1) + Y1)))) := by
  have e : y - Y3 = (y + (S * (X - X1) + Y1)) - S * (X - X3) := by rw [k2]; grind
  rw [e]
  generalize y + (S * (X - X1) + Y1) = w at *
  generalize y - (S * (X - X1) + Y1) = z at *
  grind
theorem rl_m12 {A : Type} [mRng A] {y X X1 Y1 X2 Y2 X3 S : A} (N : (y - (S * (X - X1) + Y1)) * (y + (S * (X - X1) + Y1)) = (X - X1) * (X - X2) * (X - X3)) (k3 : Y2 = Y1 + S * (X2 - X1)) : (y - (S * (X - X1) + Y1)) * ((X - X1) * (X - X3) + S * (y + (S * (X - X1) + Y1))) = (X - X3) * ((X - X1) * (y - Y2)) := by
  have e : y - Y2 = (y - (S * (X - X1) + Y1)) + S * (X - X2) := by rw [k3]; grind
  rw [e]
  generalize y + (S * (X - X1) + Y1) = w at *
  generalize y - (S * (X - X1) + Y1) = z at *
  grind
theorem rl_m21 {A : Type} [mRng A] {y X X1 Y1 X2 X3 S : A} (N : (y - (S * (X - X1) + Y1)) * (y + (S * (X - X1) + Y1)) = (X - X1) * (X - X2) * (X - X3)) : (y - (S * (X - X1) + Y1)) * ((X - X2) * (X - X3) + S * (y + (S * (X - X1) + Y1))) = (X - X3) * ((y - Y1) * (X - X2)) := by
  have e : y - Y1 = (y - (S * (X - X1) + Y1)) + S * (X - X1) := by grind
  rw [e]
  generalize y + (S * (X - X1) + Y1) = w at *
  generalize y - (S * (X - X1) + Y1) = z at *
  grind
theorem rl_m22 {A : Type} [mRng A] {y X X1 Y1 X2 Y2 X3 S : A} (N : (y - (S * (X - X1) + Y1)) * (y + (S * (X - X1) + Y1)) = (X - X1) * (X - X2) * (X - X3)) (k3 : Y2 = Y1 + S * (X2 - X1)) : (y - (S * (X - X1) + Y1)) * (((y - (S * (X - X1) + Y1)) + S * (X - X1) + S * (X - X2)) * (X - X3) + S * S * (y + (S * (X - X1) + Y1))) = (X - X3) * ((y - Y1) * (y - Y2)) := by
  have e : y - Y2 = (y - (S * (X - X1) + Y1)) + S * (X - X2) := by rw [k3]; grind
  have e' : y - Y1 = (y - (S * (X - X1) + Y1)) + S * (X - X1) := by grind
  rw [e, e']
  generalize y + (S * (X - X1) + Y1) = w at *
  generalize y - (S * (X - X1) + Y1) = z at *
  grind
theorem rl_kt {A : Type} [mRng A] {s Y X a : A} (h : s * (Y + Y) = X * X + X * X + X * X + a) : s * (2 * Y) = 3 * X * X + a := by grind
theorem rl_4 {A : Type} [mRng A] {β γ β' γ' p q x1 x2 y1 y2 : A} (h3 : p = x1 * β + y1 * γ) (h4 : q = x2 * β' + y2 * γ') : β * β' * (x1 * x2) + β * γ' * (x1 * y2) + (γ * β' * (y1 * x2) + γ * γ' * (y1 * y2)) = p * q := by rw [h3, h4]; grind
theorem idl_eq {A : Type} [mRng A] {I : A → Prop} (h : idl I) (α β : A) : idl (fun t => ∃ σ, I σ ∧ α * σ = β * t) := by
  refine ⟨⟨0, h.1, by grind⟩, fun s t hs ht => ?_, fun r s hs => ?_⟩
  · obtain ⟨s', m1, m2⟩ := hs; obtain ⟨t', m3, m4⟩ := ht; exact ⟨s' + t', h.2.1 _ _ m1 m3, by grind⟩
  · obtain ⟨s', m1, m2⟩ := hs; exact ⟨r * s', h.2.2 _ _ m1, by grind⟩
theorem iP_idl {F R A : Type} [mFld F] [mRng R] [mRng A] {co : R → Nat → F} {h : isPol co} {a b : F} {j : R → A} {y : A} {u v : A → R} (c : isCrv h a b j y u v) {P : Pt F} (hP : onE a b P) : idl (iP c P) := by
  cases P with
  | none => exact ⟨trivial, fun _ _ _ _ => trivial, fun _ _ _ => trivial⟩
  | some P =>
    have hh := evA_hom c (hm_id (F := F)) (ξ := P.1) (η := P.2) hP
    refine ⟨hm_zero hh, fun s t hs ht => ?_, fun r s hs => ?_⟩
    · show evA c (fun x => x) P.1 P.2 (s + t) = 0
      rw [hm_add hh, show evA c (fun x => x) P.1 P.2 s = 0 from hs, show evA c (fun x => x) P.1 P.2 t = 0 from ht]; grind
    · show evA c (fun x => x) P.1 P.2 (r * s) = 0
      rw [hm_mul hh, show evA c (fun x => x) P.1 P.2 s = 0 from hs]; grind
theorem iP_x {F R A : Type} [mFld F] [mRng R] [mRng A] {co : R → Nat → F} {h : isPol co} {a b : F} {j : R → A} {y : A} {u v : A → R} (c : isCrv h a b j y u v) (P : F × F) : iP c (some P) (j (pX h) - j (pC h P.1)) := by
  show evA c (fun x => x) P.1 P.2 _ = 0
  rw [← hm_sub c.1, evA_j c hm_id, hm_sub (ev_hom h hm_id _), ev_X h hm_id, ev_C h hm_id]; grind
theorem iP_y {F R A : Type} [mFld F] [mRng R] [mRng A] {co : R → Nat → F} {h : isPol co} {a b : F} {j : R → A} {y : A} {u v : A → R} (c : isCrv h a b j y u v) {P : F × F} (hP : onE a b (some P)) : iP c (some P) (y - j (pC h P.2)) := by
  show evA c (fun x => x) P.1 P.2 _ = 0
  have hh := evA_hom c (hm_id (F := F)) (ξ := P.1) (η := P.2) hP
  rw [hm_sub hh, evA_j c hm_id, evA_y c hm_id, ev_C h hm_id]; grind
theorem iP_gen {F R A : Type} [mFld F] [mRng R] [mRng A] {co : R → Nat → F} {h : isPol co} {a b : F} {j : R → A} {y : A} {u v : A → R} (c : isCrv h a b j y u v) {P : F × F} {α : A} (e : iP c (some P) α) : ∃ β γ, α = (j (pX h) - j (pC h P.1)) * β + (y - j (pC h P.2)) * γ := by
  have e1 : ev h (fun x => x) P.1 (u α) + ev h (fun x => x) P.1 (v α) * P.2 = 0 := e
  have hh := ev_hom h (hm_id (F := F)) P.1
  obtain ⟨r, hr⟩ := po_root h (p := u α + pC h P.2 * v α) (c := P.1) (by rw [hm_add hh, hm_mul hh, ev_C h hm_id]; grind)
  refine ⟨j r, j (v α), ?_⟩
  have e2 : j (u α + pC h P.2 * v α) = j ((pX h - pC h P.1) * r) := by rw [hr]
  rw [hm_add c.1, hm_mul c.1, hm_mul c.1, hm_sub c.1] at e2
  have e3 := c.2.2.1 α
  generalize j (u α) = p1 at *; generalize j (v α) = p2 at *
  grind
theorem cv_eq {F R A : Type} [mFld F] [mRng R] [mRng A] {co : R → Nat → F} {h : isPol co} {a b : F} {j : R → A} {y : A} {u v : A → R} (c : isCrv h a b j y u v) : y * y = j (pX h) * j (pX h) * j (pX h) + j (pC h a) * j (pX h) + j (pC h b) := by
  have e := c.2.1
  unfold fC at e
  rw [hm_add c.1, hm_add c.1, hm_mul c.1, hm_mul c.1, hm_mul c.1] at e; exact e
theorem kC_on {F R A : Type} [mFld F] [mRng R] [mRng A] {co : R → Nat → F} {h : isPol co} {a b : F} {j : R → A} {y : A} {u v : A → R} (c : isCrv h a b j y u v) {P : F × F} (hP : onE a b (some P)) : j (pC h P.2) * j (pC h P.2) = j (pC h P.1) * j (pC h P.1) * j (pC h P.1) + j (pC h a) * j (pC h P.1) + j (pC h b) := by
  have hk := hm_comp (pC_hom h) c.1
  have e : j (pC h (P.2 * P.2)) = j (pC h (P.1 * P.1 * P.1 + a * P.1 + b)) := by rw [show P.2 * P.2 = P.1 * P.1 * P.1 + a * P.1 + b from hP]
  rw [hm_mul hk, hm_add hk, hm_add hk, hm_mul hk, hm_mul hk, hm_mul hk] at e; exact e
theorem kC_hom {F R A : Type} [mFld F] [mRng R] [mRng A] {co : R → Nat → F} {h : isPol co} {a b : F} {j : R → A} {y : A} {u v : A → R} (c : isCrv h a b j y u v) : isHom (fun x => j (pC h x)) := hm_comp (pC_hom h) c.1
theorem kC_inv {F R A : Type} [mFld F] [mRng R] [mRng A] {co : R → Nat → F} {h : isPol co} {a b : F} {j : R → A} {y : A} {u v : A → R} (c : isCrv h a b j y u v) {k : F} (hk : k ≠ 0) : j (pC h k⁻¹) * j (pC h k) = 1 := by
  have hh := kC_hom c
  have := hm_mul hh k⁻¹ k
  rw [← this, Lean.Grind.Field.inv_mul_cancel hk]; exact hm_one hh
theorem iP_inv {F R A : Type} [mFld F] [mRng R] [mRng A] {co : R → Nat → F} {h : isPol co} {a b : F} {j : R → A} {y : A} {u v : A → R} (c : isCrv h a b j y u v) (h2 : (2 : F) ≠ 0) (hns : 4 * a * a * a + 27 * b * b ≠ 0) {P Q : F × F} (hP : onE a b (some P)) (hQ : onE a b (some Q)) (e1 : P.1 = Q.1) (e2 : P.2 + Q.2 = 0) :
    eqv (j (pX h) - j (pC h P.1)) (iP c none) 1 (ipr (iP c (some P)) (iP c (some Q))) := by
  have hh := kC_hom c
  have E := cv_eq c
  have K1 := kC_on c hP
  have q1 : j (pC h Q.1) = j (pC h P.1) := by rw [e1]
  have q2 : j (pC h Q.2) = - j (pC h P.2) := by rw [show Q.2 = - P.2 by grind]; exact hm_neg hh _
  have I := ipr_idl (iP c (some P)) (iP c (some Q))
  have hPx := iP_x c P; have hPy := iP_y c hP; have hQx := iP_x c Q; have hQy := iP_y c hQ
  have X1 : ipr (iP c (some P)) (iP c (some Q)) (j (pX h) - j (pC h P.1)) := by
    by_cases y0 : P.2 = 0
    · have z0 : Q.2 = 0 := by grind
      have g0 : 3 * P.1 * P.1 + a ≠ 0 := fun k => hns (by
        have hP' : P.2 * P.2 = P.1 * P.1 * P.1 + a * P.1 + b := hP
        rw [y0] at hP'; grind)
      have gi := kC_inv c g0
      have kg : j (pC h (3 * P.1 * P.1 + a)) = 3 * j (pC h P.1) * j (pC h P.1) + j (pC h a) := by
        have := hm_add hh (P.1 * P.1 + P.1 * P.1 + P.1 * P.1) a
        have t3 : 3 * P.1 * P.1 + a = P.1 * P.1 + P.1 * P.1 + P.1 * P.1 + a := by grind
        rw [t3]; simp only [hm_add hh, hm_mul hh]; grind
      have s1 := ipr_in (J := iP c (some Q)) hPy hQy
      have s2 := ipr_in (J := iP c (some Q)) hPx hQx
      have s3 := idl_sub I s1 (I.2.2 (j (pX h) + 2 * j (pC h P.1)) _ s2)
      have s4 := I.2.2 (j (pC h (3 * P.1 * P.1 + a)⁻¹)) _ s3
      rw [kg] at gi
      have y0' : j (pC h P.2) = 0 := by rw [y0]; exact hm_zero hh
      have t := s4
      rw [q1, q2, y0'] at t
      rw [y0'] at K1
      have : j (pC h (3 * P.1 * P.1 + a)⁻¹) * ((y - 0) * (y - -0) - (j (pX h) + 2 * j (pC h P.1)) * ((j (pX h) - j (pC h P.1)) * (j (pX h) - j (pC h P.1)))) = j (pX h) - j (pC h P.1) := by
        generalize j (pC h (3 * P.1 * P.1 + a)⁻¹) = i at *
        have : ((y - 0) * (y - -0) - (j (pX h) + 2 * j (pC h P.1)) * ((j (pX h) - j (pC h P.1)) * (j (pX h) - j (pC h P.1)))) = (3 * j (pC h P.1) * j (pC h P.1) + j (pC h a)) * (j (pX h) - j (pC h P.1)) := by grind
        rw [this]; grind
      rwa [this] at t
    · have y2 : 2 * P.2 ≠ 0 := fun k => by
        rcases Lean.Grind.Field.of_mul_eq_zero k with k | k
        · exact h2 k
        · exact y0 k
      have gi := kC_inv c y2
      have ky : j (pC h (2 * P.2)) = 2 * j (pC h P.2) := by
        rw [show 2 * P.2 = P.2 + P.2 by grind, show j (pC h (P.2 + P.2)) = j (pC h P.2) + j (pC h P.2) from hm_add hh _ _]; grind
      have s1 := ipr_in (J := iP c (some Q)) hPx hQy
      have s2 := ipr_in (J := iP c (some Q)) hPy hQx
      have s4 := I.2.2 (j (pC h (2 * P.2)⁻¹)) _ (idl_sub I s1 s2)
      rw [q1, q2] at s4
      rw [ky] at gi
      have : j (pC h (2 * P.2)⁻¹) * ((j (pX h) - j (pC h P.1)) * (y - - j (pC h P.2)) - (y - j (pC h P.2)) * (j (pX h) - j (pC h P.1))) = j (pX h) - j (pC h P.1) := by grind
      rwa [this] at s4
  refine ⟨fun s _ => ⟨s * (j (pX h) - j (pC h P.1)), I.2.2 s _ X1, by grind⟩, fun t ht => ?_⟩
  refine ht (fun t => ∃ s, iP c none s ∧ (j (pX h) - j (pC h P.1)) * s = 1 * t) ⟨⟨0, trivial, by grind⟩, fun s t hs ht => ?_, fun r s hs => ?_⟩ (fun p q hp hq => ?_)
  · obtain ⟨s', -, h3⟩ := hs; obtain ⟨t', -, h4⟩ := ht; exact ⟨s' + t', trivial, by grind⟩
  · obtain ⟨s', -, h3⟩ := hs; exact ⟨r * s', trivial, by grind⟩
  · obtain ⟨β, γ, h3⟩ := iP_gen c hp; obtain ⟨β', γ', h4⟩ := iP_gen c hq
    rw [q1, q2] at h4
    refine ⟨(j (pX h) - j (pC h P.1)) * β * β' + β * (y + j (pC h P.2)) * γ' + (y - j (pC h P.2)) * γ * β' + (j (pX h) * j (pX h) + j (pX h) * j (pC h P.1) + j (pC h P.1) * j (pC h P.1) + j (pC h a)) * γ * γ', trivial, ?_⟩
    rw [h3, h4]; grind
/-- three points of a line -/
theorem iP_line {F R A : Type} [mFld F] [mRng R] [mRng A] {co : R → Nat → F} {h : isPol co} {a b : F} {j : R → A} {y : A} {u v : A → R} (c : isCrv h a b j y u v) {P Q : F × F} (hP : onE a b (some P)) (hQ : onE a b (some Q)) (hg : ¬ (P.1 = Q.1 ∧ P.2 + Q.2 = 0)) :
    onE a b (some (p3 (sl a P Q) P Q)) ∧ eqv (y - (j (pC h (sl a P Q)) * (j (pX h) - j (pC h P.1)) + j (pC h P.2))) (iP c (some (p3 (sl a P Q) P Q))) (j (pX h) - j (pC h (p3 (sl a P Q) P Q).1)) (ipr (iP c (some P)) (iP c (some Q))) := by
  obtain ⟨hl, hc⟩ := sl_line hP hQ hg
  have hP' : P.2 * P.2 = P.1 * P.1 * P.1 + a * P.1 + b := hP
  have hQ' : Q.2 * Q.2 = Q.1 * Q.1 * Q.1 + a * Q.1 + b := hQ
  generalize sl a P Q = s at *
  have e1 : (p3 s P Q).1 = s * s - P.1 - Q.1 := rfl
  have e2 : (p3 s P Q).2 = s * (P.1 - (p3 s P Q).1) - P.2 := rfl
  -- the line's product: (X - x1)(X - x2)(X - x3) = f - (line)^2, as two equations of coefficients
  have c1 : P.1 * Q.1 + (P.1 + Q.1) * (s * s - P.1 - Q.1) = a - 2 * s * (P.2 - s * P.1) := by
    rcases hc with hc | ⟨d1, d2, d3, d4⟩
    · have n1 : Q.1 - P.1 ≠ 0 := fun k => hc (by grind)
      have : (Q.1 - P.1) * (P.1 * Q.1 + (P.1 + Q.1) * (s * s - P.1 - Q.1) - (a - 2 * s * (P.2 - s * P.1))) = 0 := by grind
      rcases Lean.Grind.Field.of_mul_eq_zero this with k | k
      · exact absurd k n1
      · grind
    · grind
  have c2 : P.1 * Q.1 * (s * s - P.1 - Q.1) = (P.2 - s * P.1) * (P.2 - s * P.1) - b := by
    have : P.1 * (P.1 * Q.1 + (P.1 + Q.1) * (s * s - P.1 - Q.1)) = P.1 * (a - 2 * s * (P.2 - s * P.1)) := by rw [c1]
    grind
  generalize hx3 : (p3 s P Q).1 = x3 at *
  generalize hy3 : (p3 s P Q).2 = y3 at *
  rw [← e1] at c1 c2
  have on3 : onE a b (some (p3 s P Q)) := by
    show (p3 s P Q).2 * (p3 s P Q).2 = (p3 s P Q).1 * (p3 s P Q).1 * (p3 s P Q).1 + a * (p3 s P Q).1 + b
    rw [hx3, hy3]; grind
  refine ⟨on3, ?_⟩
  have hh := kC_hom c
  have E := cv_eq c
  have I := ipr_idl (iP c (some P)) (iP c (some Q))
  have I3 := iP_idl c on3
  have hPx := iP_x c P; have hPy := iP_y c hP; have hQx := iP_x c Q; have hQy := iP_y c hQ
  have h3x := iP_x c (p3 s P Q); have h3y := iP_y c on3
  rw [hx3] at h3x; rw [hy3] at h3y
  have g3 : ∀ {α : A}, iP c (some (p3 s P Q)) α → ∃ β γ, α = (j (pX h) - j (pC h x3)) * β + (y - j (pC h y3)) * γ := fun hα => by
    obtain ⟨β, γ, e⟩ := iP_gen c hα; rw [hx3, hy3] at e; exact ⟨β, γ, e⟩
  -- the words above, in A
  have k1 : j (pC h x3) = j (pC h s) * j (pC h s) - j (pC h P.1) - j (pC h Q.1) := by
    have := congrArg (fun z => j (pC h z)) e1; simp only [hm_sub hh, hm_mul hh] at this; exact this
  have k2 : j (pC h y3) = j (pC h s) * (j (pC h P.1) - j (pC h x3)) - j (pC h P.2) := by
    have := congrArg (fun z => j (pC h z)) e2; simp only [hm_sub hh, hm_mul hh] at this; exact this
  have k3 : j (pC h Q.2) = j (pC h P.2) + j (pC h s) * (j (pC h Q.1) - j (pC h P.1)) := by
    have := congrArg (fun z => j (pC h z)) hl; simp only [hm_sub hh, hm_mul hh, hm_add hh] at this; exact this
  have k4 : j (pC h P.1) * j (pC h Q.1) + (j (pC h P.1) + j (pC h Q.1)) * j (pC h x3) = j (pC h a) - 2 * j (pC h s) * (j (pC h P.2) - j (pC h s) * j (pC h P.1)) := by
    have t : P.1 * Q.1 + (P.1 + Q.1) * x3 = a - (s * (P.2 - s * P.1) + s * (P.2 - s * P.1)) := by rw [c1]; grind
    have := congrArg (fun z => j (pC h z)) t; simp only [hm_sub hh, hm_mul hh, hm_add hh] at this; rw [this]; grind
  have k5 : j (pC h P.1) * j (pC h Q.1) * j (pC h x3) = (j (pC h P.2) - j (pC h s) * j (pC h P.1)) * (j (pC h P.2) - j (pC h s) * j (pC h P.1)) - j (pC h b) := by
    have := congrArg (fun z => j (pC h z)) c2; simp only [hm_sub hh, hm_mul hh] at this; exact this
  have kt : P.1 ≠ Q.1 ∨ (j (pC h P.1) = j (pC h Q.1) ∧ j (pC h P.2) = j (pC h Q.2) ∧ 2 * P.2 ≠ 0 ∧ j (pC h s) * (2 * j (pC h P.2)) = 3 * j (pC h P.1) * j (pC h P.1) + j (pC h a)) := by
    rcases hc with hc | ⟨d1, d2, d3, d4⟩
    · exact Or.inl hc
    · refine Or.inr ⟨by rw [d1], by rw [d2], d3, ?_⟩
      have t : s * (P.2 + P.2) = P.1 * P.1 + P.1 * P.1 + P.1 * P.1 + a := by grind
      have := congrArg (fun z => j (pC h z)) t; simp only [hm_mul hh, hm_add hh] at this
      exact rl_kt this
  have ki : ∀ k : F, k ≠ 0 → ∃ i, i * j (pC h k) = 1 := fun k hk => ⟨_, kC_inv c hk⟩
  have kd : j (pC h (Q.1 - P.1)) = j (pC h Q.1) - j (pC h P.1) := hm_sub hh _ _
  have ky : j (pC h (2 * P.2)) = 2 * j (pC h P.2) := by
    rw [show 2 * P.2 = P.2 + P.2 by grind, show j (pC h (P.2 + P.2)) = j (pC h P.2) + j (pC h P.2) from hm_add hh _ _]; grind
  have KP := kC_on c hP
  generalize j (pC h x3) = X3 at *; generalize j (pC h y3) = Y3 at *; generalize j (pC h s) = S at *
  generalize hX1 : j (pC h P.1) = X1 at *; generalize hY1 : j (pC h P.2) = Y1 at *; generalize hX2 : j (pC h Q.1) = X2 at *; generalize hY2 : j (pC h Q.2) = Y2 at *
  generalize j (pC h a) = a' at *; generalize j (pC h b) = b' at *; generalize hX : j (pX h) = X at *
  have N : (y - (S * (X - X1) + Y1)) * (y + (S * (X - X1) + Y1)) = (X - X1) * (X - X2) * (X - X3) := rl_N E k1 k4 k5
  have p11 := ipr_in (J := iP c (some Q)) hPx hQx
  have p12 := ipr_in (J := iP c (some Q)) hPx hQy
  have p21 := ipr_in (J := iP c (some Q)) hPy hQx
  have p22 := ipr_in (J := iP c (some Q)) hPy hQy
  have l0 : ipr (iP c (some P)) (iP c (some Q)) (y - (S * (X - X1) + Y1)) := by
    rcases kt with hc | ⟨d1, d2, d3, d4⟩
    · obtain ⟨i, hi⟩ := ki (Q.1 - P.1) (fun k => hc (by grind))
      rw [kd] at hi
      have s1 := idl_sub I p12 (I.2.2 S _ p11)
      have s2 := idl_sub I p21 (I.2.2 S _ p11)
      have s3 := I.2.2 i _ (idl_sub I s1 s2)
      have : i * ((X - X1) * (y - Y2) - S * ((X - X1) * (X - X2)) - ((y - Y1) * (X - X2) - S * ((X - X1) * (X - X2)))) = y - (S * (X - X1) + Y1) := rl_l1 hi k3
      rwa [this] at s3
    · obtain ⟨i, hi⟩ := ki (2 * P.2) d3
      rw [ky] at hi
      have s3 := I.2.2 i _ (idl_sub I (I.2.2 (X + 2 * X1) _ p11) p22)
      have : i * ((X + 2 * X1) * ((X - X1) * (X - X2)) - (y - Y1) * (y - Y2)) = y - (S * (X - X1) + Y1) := by
        rw [← d1, ← d2]; exact rl_l2 hi d4 E KP
      rwa [this] at s3
  have lb : iP c (some (p3 s P Q)) (y + (S * (X - X1) + Y1)) := by
    have := I3.2.1 _ _ h3y (I3.2.2 S _ h3x)
    rwa [rl_lb k2] at this
  refine ⟨fun σ hσ => ?_, fun t ht => ?_⟩
  · obtain ⟨β, γ, e⟩ := g3 hσ
    refine ⟨β * (y - (S * (X - X1) + Y1)) + γ * ((X - X1) * (X - X2) - S * (y - (S * (X - X1) + Y1))), I.2.1 _ _ (I.2.2 β _ l0) (I.2.2 γ _ (idl_sub I p11 (I.2.2 S _ l0))), ?_⟩
    rw [e]; exact rl_s N k2
  · have M : idl (fun t => ∃ σ, iP c (some (p3 s P Q)) σ ∧ (y - (S * (X - X1) + Y1)) * σ = (X - X3) * t) := idl_eq I3 _ _
    have m11 : ∃ σ, iP c (some (p3 s P Q)) σ ∧ (y - (S * (X - X1) + Y1)) * σ = (X - X3) * ((X - X1) * (X - X2)) := ⟨_, lb, by rw [N]; grind⟩
    have m12 : ∃ σ, iP c (some (p3 s P Q)) σ ∧ (y - (S * (X - X1) + Y1)) * σ = (X - X3) * ((X - X1) * (y - Y2)) := ⟨(X - X1) * (X - X3) + S * (y + (S * (X - X1) + Y1)), I3.2.1 _ _ (I3.2.2 _ _ h3x) (I3.2.2 _ _ lb), rl_m12 N k3⟩
    have m21 : ∃ σ, iP c (some (p3 s P Q)) σ ∧ (y - (S * (X - X1) + Y1)) * σ = (X - X3) * ((y - Y1) * (X - X2)) := ⟨(X - X2) * (X - X3) + S * (y + (S * (X - X1) + Y1)), I3.2.1 _ _ (I3.2.2 _ _ h3x) (I3.2.2 _ _ lb), rl_m21 N⟩
    have m22 : ∃ σ, iP c (some (p3 s P Q)) σ ∧ (y - (S * (X - X1) + Y1)) * σ = (X - X3) * ((y - Y1) * (y - Y2)) := ⟨((y - (S * (X - X1) + Y1)) + S * (X - X1) + S * (X - X2)) * (X - X3) + S * S * (y + (S * (X - X1) + Y1)), I3.2.1 _ _ (I3.2.2 _ _ h3x) (I3.2.2 _ _ lb), rl_m22 N k3⟩
    refine ht _ M (fun p q hp hq => ?_)
    obtain ⟨β, γ, h3⟩ := iP_gen c hp; obtain ⟨β', γ', h4⟩ := iP_gen c hq
    rw [hX1, hY1, hX] at h3; rw [hX2, hY2, hX] at h4
    have r := M.2.1 _ _ (M.2.1 _ _ (M.2.2 (β * β') _ m11) (M.2.2 (β * γ') _ m12)) (M.2.1 _ _ (M.2.2 (γ * β') _ m21) (M.2.2 (γ * γ') _ m22))
    have e9 : β * β' * ((X - X1) * (X - X2)) + β * γ' * ((X - X1) * (y - Y2)) + (γ * β' * ((y - Y1) * (X - X2)) + γ * γ' * ((y - Y1) * (y - Y2))) = p * q := rl_4 h3 h4
    rw [e9] at r
    exact r
