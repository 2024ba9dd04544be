theorem j_ne {F R A : Type} [mFld F] [mRng R] [mRng A] {co : R → Nat → F} {h : isPol co} {a b : F} {j : R → A} {y : A} {u v : A → R} (c : isCrv h a b j y u v) {p : R} (e : p ≠ 0) : j p ≠ 0 := fun k => e (by rw [← (cv_j c p).1, k, (cv_0 c).1])
theorem XC_ne {F R : Type} [mFld F] [mRng R] {co : R → Nat → F} (h : isPol co) (k : F) : pX h - pC h k ≠ 0 := fun e => by have := sz_XC h k; rw [e, sz_zero] at this; omega
theorem line_ne {F R A : Type} [mFld F] [mRng R] [mRng A] {co : R → Nat → F} {h : isPol co} {a b : F} {j : R → A} {y : A} {u v : A → R} (c : isCrv h a b j y u v) (p : R) : y - j p ≠ 0 := fun k => by
  have e := (cv_uv c (α := y - j p) (p := -p) (q := 1) (by rw [hm_neg c.1, hm_one c.1]; grind)).2
  rw [k, (cv_0 c).2] at e
  exact po_one0 h e.symm
theorem one_ne {F R A : Type} [mFld F] [mRng R] [mRng A] {co : R → Nat → F} {h : isPol co} {a b : F} {j : R → A} {y : A} {u v : A → R} (c : isCrv h a b j y u v) : (1 : A) ≠ 0 := by rw [← hm_one c.1]; exact j_ne c (po_one0 h)
theorem iP_sum {F R A : Type} [mFld F] [mRng R] [mRng A] {co : R → Nat → F} {h : isPol co} {a b : F} {j : R → A} {y : A} {u v : A → R} (c : isCrv h a b j y u v) (h2 : (2 : F) ≠ 0) (hns : 4 * a * a * a + 27 * b * b ≠ 0) {P Q : Pt F} (hP : onE a b P) (hQ : onE a b Q) :
    onE a b (ad a P Q) ∧ ∃ α β, α ≠ 0 ∧ β ≠ 0 ∧ eqv α (iP c (ad a P Q)) β (ipr (iP c P) (iP c Q)) := by
  have unit : ∀ {I J : A → Prop}, idl J → I 1 → eqv 1 J 1 (ipr I J) := fun {I J} hJ h1 =>
    ⟨fun s hs => ⟨1 * s, ipr_in h1 hs, by grind⟩, fun t ht => ⟨t, ht J hJ (fun s t _ ht => hJ.2.2 s t ht), rfl⟩⟩
  cases P with
  | none => exact ⟨hQ, 1, 1, one_ne c, one_ne c, unit (iP_idl c hQ) trivial⟩
  | some P => cases Q with
    | none =>
      have h3 := unit (I := iP c none) (iP_idl c hP) trivial
      exact ⟨hP, 1, 1, one_ne c, one_ne c, ⟨fun s hs => by obtain ⟨t, h4, h5⟩ := h3.1 s hs; exact ⟨t, ipr_comm h4, h5⟩, fun t ht => h3.2 t (ipr_comm ht)⟩⟩
    | some Q =>
      by_cases e : P.1 = Q.1 ∧ P.2 + Q.2 = 0
      · rw [ad_inv e.1 e.2]
        exact ⟨trivial, _, _, by rw [← hm_sub c.1]; exact j_ne c (XC_ne h _), one_ne c, iP_inv c h2 hns hP hQ e.1 e.2⟩
      · rw [ad_gen e]
        obtain ⟨h3, h4⟩ := iP_line c hP hQ e
        refine ⟨h3, _, _, ?_, ?_, h4⟩
        · rw [← hm_sub c.1, ← hm_mul c.1, ← hm_add c.1]; exact line_ne c _
        · rw [← hm_sub c.1]; exact j_ne c (XC_ne h _)
theorem rl_i1 {A : Type} [mRng A] {α β c g1 g2 x x' t : A} (e1 : α * x = β * (c * x')) (e2 : α * t = β * g2) : β * (c * x' * t) = β * (g2 * x) := by grind
theorem iP_inj {F R A : Type} [mFld F] [mRng R] [mRng A] {co : R → Nat → F} {h : isPol co} {a b : F} {j : R → A} {y : A} {u v : A → R} (c : isCrv h a b j y u v) {S T : Pt F} (hS : onE a b S) (hT : onE a b T) {α β : A} (hα : α ≠ 0) (hβ : β ≠ 0) (e : eqv α (iP c S) β (iP c T)) : S = T := by
  have hh := kC_hom c
  -- a unit is in no point's ideal
  have nu : ∀ (P : F × F), onE a b (some P) → ∀ g : A, g ≠ 0 → iP c (some P) g → dA c g ≠ 0 := fun P hP g hg hi k => by
    have e1 := dA_0 c k
    have e2 : evA c (fun x => x) P.1 P.2 g = 0 := hi
    rw [e1, evA_j c hm_id, ev_C h hm_id] at e2
    rw [e2, pC_zero, hm_zero c.1] at e1
    exact hg e1
  -- x - e is no part of k (y - e') where k isn't 0
  have nd : ∀ (k e e' : F) (g : A), k ≠ 0 → j (pC h k) * (y - j (pC h e')) ≠ (j (pX h) - j (pC h e)) * g := fun k e e' g hk q => by
    have h1 : j (pC h k) ≠ 0 := j_ne c (fun z => hk (pC_inj h (by rw [z, pC_zero])))
    have h3 : (j (pX h) - j (pC h e)) ≠ 0 := by rw [← hm_sub c.1]; exact j_ne c (XC_ne h _)
    have h4 : g ≠ 0 := fun z => by
      rw [z] at q
      rcases cv_dom c (α := j (pC h k)) (β := y - j (pC h e')) (by rw [q]; grind) with z | z
      · exact h1 z
      · exact line_ne c _ z
    have h5 := dA_mul c h1 (line_ne c (pC h e'))
    have h6 := dA_mul c h3 h4
    rw [q, h6, dA_y, ← hm_sub c.1, dA_x, dA_j, sz_C h hk] at h5
    exact dA_n1 c g (by omega)
  cases S with
  | none => cases T with
    | none => rfl
    | some T =>
      exfalso
      obtain ⟨g1, m1, q1⟩ := e.2 _ (iP_x c T)
      obtain ⟨g2, m2, q2⟩ := e.2 _ (iP_y c hT)
      obtain ⟨g3, m3, q3⟩ := e.1 1 trivial
      have x0 : (j (pX h) - j (pC h T.1)) ≠ 0 := by rw [← hm_sub c.1]; exact j_ne c (XC_ne h _)
      have n3 : g3 ≠ 0 := fun z => by
        rw [z] at q3; exact hα (by grind)
      have n1 : g1 ≠ 0 := fun z => by
        rw [z] at q1
        rcases cv_dom c (α := β) (β := j (pX h) - j (pC h T.1)) (by rw [← q1]; grind) with z | z
        · exact hβ z
        · exact x0 z
      have d1 := dA_mul c hα n1
      have d2 := dA_mul c hβ x0
      have d3 := dA_mul c hβ n3
      rw [q1, d2, ← hm_sub c.1, dA_x] at d1
      rw [← q3, show α * 1 = α by grind] at d3
      have d4 := nu T hT g3 n3 m3
      have d5 := dA_n1 c g3
      have d6 : dA c g1 = 0 := by omega
      have e1 := dA_0 c d6
      have k0 : co (u g1) 0 ≠ 0 := fun z => n1 (by rw [e1, z, pC_zero, hm_zero c.1])
      refine nd _ T.1 T.2 g2 k0 (cv_canc c hα ?_)
      rw [← e1]
      have : β * ((j (pX h) - j (pC h T.1)) * (y - j (pC h T.2))) = β * ((j (pX h) - j (pC h T.1)) * (y - j (pC h T.2))) := rfl
      have a1 : α * (g1 * (y - j (pC h T.2))) = (j (pX h) - j (pC h T.1)) * (β * (y - j (pC h T.2))) := by rw [show α * (g1 * (y - j (pC h T.2))) = (α * g1) * (y - j (pC h T.2)) by grind, q1]; grind
      rw [a1, ← q2]; grind
  | some S => cases T with
    | none =>
      exfalso
      obtain ⟨g1, m1, q1⟩ := e.1 _ (iP_x c S)
      obtain ⟨g2, m2, q2⟩ := e.1 _ (iP_y c hS)
      obtain ⟨g3, m3, q3⟩ := e.2 1 trivial
      have x0 : (j (pX h) - j (pC h S.1)) ≠ 0 := by rw [← hm_sub c.1]; exact j_ne c (XC_ne h _)
      have n3 : g3 ≠ 0 := fun z => by
        rw [z] at q3; exact hβ (by grind)
      have n1 : g1 ≠ 0 := fun z => by
        rw [z] at q1
        rcases cv_dom c (α := α) (β := j (pX h) - j (pC h S.1)) (by rw [q1]; grind) with z | z
        · exact hα z
        · exact x0 z
      have d1 := dA_mul c hβ n1
      have d2 := dA_mul c hα x0
      have d3 := dA_mul c hα n3
      rw [← q1, d2, ← hm_sub c.1, dA_x] at d1
      rw [q3, show β * 1 = β by grind] at d3
      have d4 := nu S hS g3 n3 m3
      have d5 := dA_n1 c g3
      have d6 : dA c g1 = 0 := by omega
      have e1 := dA_0 c d6
      have k0 : co (u g1) 0 ≠ 0 := fun z => n1 (by rw [e1, z, pC_zero, hm_zero c.1])
      refine nd _ S.1 S.2 g2 k0 (cv_canc c hβ ?_)
      rw [← e1]
      have a1 : β * (g1 * (y - j (pC h S.2))) = (j (pX h) - j (pC h S.1)) * (α * (y - j (pC h S.2))) := by rw [show β * (g1 * (y - j (pC h S.2))) = (β * g1) * (y - j (pC h S.2)) by grind, ← q1]; grind
      rw [a1, q2]; grind
    | some T =>
      obtain ⟨g1, m1, q1⟩ := e.1 _ (iP_x c S)
      obtain ⟨g2, m2, q2⟩ := e.1 _ (iP_y c hS)
      obtain ⟨g3, m3, q3⟩ := e.2 _ (iP_x c T)
      have x0 : (j (pX h) - j (pC h S.1)) ≠ 0 := by rw [← hm_sub c.1]; exact j_ne c (XC_ne h _)
      have x1 : (j (pX h) - j (pC h T.1)) ≠ 0 := by rw [← hm_sub c.1]; exact j_ne c (XC_ne h _)
      have n1 : g1 ≠ 0 := fun z => by
        rw [z] at q1
        rcases cv_dom c (α := α) (β := j (pX h) - j (pC h S.1)) (by rw [q1]; grind) with z | z
        · exact hα z
        · exact x0 z
      have n3 : g3 ≠ 0 := fun z => by
        rw [z] at q3
        rcases cv_dom c (α := β) (β := j (pX h) - j (pC h T.1)) (by rw [← q3]; grind) with z | z
        · exact hβ z
        · exact x1 z
      have d1 := dA_mul c hβ n1
      have d2 := dA_mul c hα x0
      have d3 := dA_mul c hα n3
      have d4 := dA_mul c hβ x1
      rw [← q1, d2, ← hm_sub c.1, dA_x] at d1
      rw [q3, d4, ← hm_sub c.1, dA_x] at d3
      have d5 := nu T hT g1 n1 m1
      have d6 := nu S hS g3 n3 m3
      have d7 := dA_n1 c g3
      have d8 := dA_n1 c g1
      obtain ⟨k, e0, hk, e1⟩ := dA_2 c (α := g1) (by omega)
      have e2 : evA c (fun x => x) T.1 T.2 g1 = 0 := m1
      have hT' := evA_hom c (hm_id (F := F)) (ξ := T.1) (η := T.2) hT
      rw [e1, hm_mul hT', evA_j c hm_id, evA_j c hm_id, ev_C h hm_id, hm_sub (ev_hom h hm_id _), ev_X h hm_id, ev_C h hm_id] at e2
      have e3 : T.1 = e0 := by
        rcases Lean.Grind.Field.of_mul_eq_zero e2 with z | z
        · exact absurd z hk
        · grind
      rw [← e3, hm_sub c.1] at e1
      have q5 : j (pC h k) * (j (pX h) - j (pC h T.1)) * (y - j (pC h S.2)) = g2 * (j (pX h) - j (pC h S.1)) := by
        refine cv_canc c hβ ?_
        rw [e1] at q1
        exact rl_i1 (g1 := g1) q1 q2
      have e4 : S.1 = T.1 := Classical.byContradiction (fun ne => by
        have hk2 : k * (S.1 - T.1) ≠ 0 := fun z => by
          rcases Lean.Grind.Field.of_mul_eq_zero z with z | z
          · exact hk z
          · exact ne (by grind)
        refine nd (k * (S.1 - T.1)) S.1 S.2 (g2 - j (pC h k) * (y - j (pC h S.2))) hk2 ?_
        have k1 : j (pC h (k * (S.1 - T.1))) = j (pC h k) * (j (pC h S.1) - j (pC h T.1)) := by
          have := hm_mul hh k (S.1 - T.1); simp only [hm_sub hh] at this; exact this
        rw [k1]
        generalize j (pC h k) = K at *; generalize y - j (pC h S.2) = w at *; generalize j (pC h S.1) = X1 at *; generalize j (pC h T.1) = X2 at *
        generalize j (pX h) = X at *
        clear hh nd nu
        grind)
      have e5 : α = β * j (pC h k) := by
        refine cv_canc c x0 ?_
        rw [e1, ← e4] at q1
        rw [show (j (pX h) - j (pC h S.1)) * α = α * (j (pX h) - j (pC h S.1)) by grind, q1]; grind
      have e6 : j (pC h k) * (y - j (pC h S.2)) = g2 := by
        refine cv_canc c hβ ?_
        rw [← q2, e5]; grind
      have e7 : evA c (fun x => x) T.1 T.2 g2 = 0 := m2
      rw [← e6, hm_mul hT', hm_sub hT', evA_j c hm_id, evA_j c hm_id, evA_y c hm_id, ev_C h hm_id, ev_C h hm_id] at e7
      have e8 : S.2 = T.2 := by
        rcases Lean.Grind.Field.of_mul_eq_zero e7 with z | z
        · exact absurd z hk
        · grind
      rw [show S = T from Prod.ext e4 e8]
theorem ad_on {F : Type} [mFld F] {a b : F} (h2 : (2 : F) ≠ 0) (hns : 4 * a * a * a + 27 * b * b ≠ 0) {P Q : Pt F} (hP : onE a b P) (hQ : onE a b Q) : onE a b (ad a P Q) := by
  obtain ⟨R, iR, co, h⟩ := pol_ex F
  obtain ⟨A, iA, j, y, u, v, c⟩ := crv_ex h a b
  exact (iP_sum c h2 hns hP hQ).1
theorem ad_assoc {F : Type} [mFld F] {a b : F} (h2 : (2 : F) ≠ 0) (hns : 4 * a * a * a + 27 * b * b ≠ 0) {P Q S : Pt F} (hP : onE a b P) (hQ : onE a b Q) (hS : onE a b S) : ad a (ad a P Q) S = ad a P (ad a Q S) := by
  obtain ⟨R, iR, co, h⟩ := pol_ex F
  obtain ⟨A, iA, j, y, u, v, c⟩ := crv_ex h a b
  obtain ⟨o1, α1, β1, a1, b1, e1⟩ := iP_sum c h2 hns hP hQ
  obtain ⟨o2, α2, β2, a2, b2, e2⟩ := iP_sum c h2 hns o1 hS
  obtain ⟨o3, α3, β3, a3, b3, e3⟩ := iP_sum c h2 hns hQ hS
  obtain ⟨o4, α4, β4, a4, b4, e4⟩ := iP_sum c h2 hns hP o3
  have n : ∀ {s t : A}, s ≠ 0 → t ≠ 0 → s * t ≠ 0 := fun hs ht k => by
    rcases cv_dom c k with k | k
    · exact hs k
    · exact ht k
  have r1 := eqv_tr e2 (eqv_pr (iP c S) e1)
  have r2 := eqv_tr e4 (show eqv α3 (ipr (iP c P) (iP c (ad a Q S))) β3 (ipr (ipr (iP c P) (iP c Q)) (iP c S)) from by
    have r := eqv_pr (iP c P) e3
    refine ⟨fun s hs => ?_, fun t ht => ?_⟩
    · obtain ⟨t, ht, q⟩ := r.1 s (ipr_comm hs)
      exact ⟨t, ipr_as' (ipr_comm ht), q⟩
    · obtain ⟨s, hs, q⟩ := r.2 t (ipr_comm (ipr_as ht))
      exact ⟨s, ipr_comm hs, q⟩)
  exact iP_inj c o2 o4 (n (n a2 a1) (n b4 b3)) (n (n b2 b1) (n a4 a3)) (eqv_tr r1 (eqv_sy r2))
