theorem fp_root {F K : Type} [mFld F] [mFld K] {p : Nat} {els : List F} (k : isFp F p els) {κ : F → K} (hκ : isHom κ) {z : K} (hz : z ^ p = z) : ∃ c, z = κ c := by
  have p2 := fp_pos k
  have h1 : (1 : K) ≠ 0 := fun z => Lean.Grind.Field.zero_ne_one z.symm
  refine Classical.byContradiction (fun ne => ?_)
  obtain ⟨R, iR, co, h⟩ := pol_ex K
  have s1 : sz h (pX h ^ p - pX h) = p + 1 := by
    rw [show pX h ^ p - pX h = pX h ^ p + - pX h by grind, sz_addl h (by rw [sz_neg, sz_X, (X_pow h p).1]; omega), (X_pow h p).1]
  have n0 : pX h ^ p - pX h ≠ 0 := fun w => by rw [w, sz_zero] at s1; omega
  have ro : ∀ w : K, w ^ p = w → ev h (fun x => x) w (pX h ^ p - pX h) = 0 := fun w hw => by
    rw [hm_sub (ev_hom h hm_id w), hm_pow (ev_hom h hm_id w), ev_X h hm_id, hw]; grind
  have := po_roots h (z :: els.map κ) _ n0 (List.nodup_cons.mpr ⟨fun m => by
      obtain ⟨c, -, e⟩ := List.mem_map.mp m
      exact ne ⟨c, e.symm⟩, by
      unfold List.Nodup
      rw [List.pairwise_map]
      exact List.Pairwise.imp (fun hne e => hne (hm_inj hκ h1 e)) k.1⟩) (fun w hw => by
    rcases List.mem_cons.mp hw with e | e
    · rw [e]; exact ro z hz
    · obtain ⟨c, -, e⟩ := List.mem_map.mp e
      exact ro w (by rw [← e, ← hm_pow hκ, k.2.2.2 c]))
  rw [s1, List.length_cons, List.length_map, k.2.2.1] at this
  omega
/-- two pairs that stand for one point -/
theorem same_x {K : Type} [mFld K] {A B A' B' k k' : K} {W : Pt K} (h1 : A = k * xA W) (h2 : B = k * xB W) (h3 : A' = k' * xA W) (h4 : B' = k' * xB W) : A * B' = A' * B := by rw [h1, h2, h3, h4]; grind
/-- what a generic point is: x is in no relation -/
theorem non_const {F R : Type} [mFld F] [mRng R] {co : R → Nat → F} {K : Type} [mFld K] (h : isPol co) {φ : F → K} (hφ : isHom φ) {x : K} (tr : ∀ u : R, ev h φ x u = 0 → u = 0) {A B : R} (hl : sz h B < sz h A) (B0 : B ≠ 0) {α β : F} (hab : α ≠ 0 ∨ β ≠ 0) (e : ev h φ x A * φ β = φ α * ev h φ x B) : False := by
  have hx := ev_hom h hφ x
  have e1 : pC h β * A = pC h α * B := by
    have : ev h φ x (pC h β * A - pC h α * B) = 0 := by rw [hm_sub hx, hm_mul hx, hm_mul hx, ev_C h hφ, ev_C h hφ]; grind
    have := tr _ this
    grind
  by_cases z : β = 0
  · have a0 : α ≠ 0 := hab.resolve_right (fun k => k z)
    rw [z, pC_zero, show (0 : R) * A = 0 by grind] at e1
    rcases po_dom h e1.symm with w | w
    · exact a0 (pC_inj h (by rw [w, pC_zero]))
    · exact B0 w
  · obtain ⟨d, hd⟩ : ∃ d, sz h A = d + 1 := ⟨sz h A - 1, by omega⟩
    have s1 := sz_mul h (sz_C h z) hd
    rw [e1] at s1
    obtain ⟨d2, hd2⟩ := sz_pos h B0
    have s2 := (sz_mle h (sz_Cle h α) (Nat.le_of_eq hd2)).1
    omega
theorem xA_pm {F K : Type} [mFld F] [mFld K] {φ : F → K} (hφ : isHom φ) (U : Pt F) : xA (pm φ U) = φ (xA U) ∧ xB (pm φ U) = φ (xB U) := by
  cases U with
  | none => exact ⟨(hm_one hφ).symm, (hm_zero hφ).symm⟩
  | some U => exact ⟨rfl, (hm_one hφ).symm⟩
/-- the first of the chain of the p-th power: values -/
theorem hs_ev {F R : Type} [mFld F] [mRng R] {co : R → Nat → F} {K : Type} [mFld K] (h : isPol co) {p e : Nat} {els : List F} (k : isFp F p els) (he : p = 2 * e + 1) {φ : F → K} (hφ : isHom φ) {a b : F} {A B cp : R}
    (n1 : cp * A = fC h a b * ((fC h a b ^ e + 1) * (fC h a b ^ e + 1)) - (pX h ^ p + pX h) * ((pX h ^ p - pX h) * (pX h ^ p - pX h))) (n2 : cp * B = (pX h ^ p - pX h) * (pX h ^ p - pX h))
    {Q : K × K} (hQ : onE (φ a) (φ b) (some Q)) (nQ : Q.1 ^ p ≠ Q.1) : evp h φ Q.1 (A, B) (ad (φ a) (some (Q.1 ^ p, Q.2 ^ p)) (ng (some Q))) := by
  have hx := ev_hom h hφ Q.1
  have hQ' : Q.2 * Q.2 = Q.1 * Q.1 * Q.1 + φ a * Q.1 + φ b := hQ
  have v1 := congrArg (ev h φ Q.1) n1
  have v2 := congrArg (ev h φ Q.1) n2
  have ef : ev h φ Q.1 (fC h a b) = Q.2 * Q.2 := by rw [ev_f h hφ, hQ']
  have eX := ev_X h hφ Q.1
  rw [hm_mul hx, hm_sub hx, hm_mul hx, hm_mul hx, hm_mul hx, hm_mul hx, hm_add hx, hm_add hx, hm_sub hx, hm_pow hx, hm_pow hx, hm_one hx, ef, eX] at v1
  rw [hm_mul hx, hm_mul hx, hm_sub hx, hm_pow hx, eX] at v2
  have yp : Q.2 ^ p = Q.2 * (Q.2 * Q.2) ^ e := by rw [he, show 2 * e + 1 = e + e + 1 by omega, Lean.Grind.Semiring.pow_succ, rp_add, rp_mul]; grind
  have d0 : Q.1 - Q.1 ^ p ≠ 0 := fun z => nQ (by grind)
  have g : ¬ ((Q.1 ^ p, Q.2 ^ p).1 = (Q.1, - Q.2).1 ∧ (Q.1 ^ p, Q.2 ^ p).2 + (Q.1, - Q.2).2 = 0) := fun z => nQ z.1
  rw [show ng (some Q) = some (Q.1, - Q.2) from rfl, ad_gen g]
  have s1 : sl (φ a) (Q.1 ^ p, Q.2 ^ p) (Q.1, - Q.2) = (- Q.2 - Q.2 ^ p) * (Q.1 - Q.1 ^ p)⁻¹ := if_neg nQ
  have hi := Lean.Grind.Field.mul_inv_cancel d0
  have B0 : ev h φ Q.1 B ≠ 0 := fun z => by
    rw [z] at v2
    have : (Q.1 - Q.1 ^ p) * (Q.1 - Q.1 ^ p) = 0 := by
      rw [show (Q.1 - Q.1 ^ p) * (Q.1 - Q.1 ^ p) = (Q.1 ^ p - Q.1) * (Q.1 ^ p - Q.1) by grind, ← v2]; grind
    rcases Lean.Grind.Field.of_mul_eq_zero this with w | w <;> exact d0 w
  have C0 : ev h φ Q.1 cp ≠ 0 := fun z => by
    rw [z] at v2
    have : (Q.1 - Q.1 ^ p) * (Q.1 - Q.1 ^ p) = 0 := by
      rw [show (Q.1 - Q.1 ^ p) * (Q.1 - Q.1 ^ p) = (Q.1 ^ p - Q.1) * (Q.1 ^ p - Q.1) by grind, ← v2]; grind
    rcases Lean.Grind.Field.of_mul_eq_zero this with w | w <;> exact d0 w
  refine ⟨ev h φ Q.1 B, B0, ?_, by show ev h φ Q.1 B = ev h φ Q.1 B * 1; grind⟩
  show ev h φ Q.1 A = ev h φ Q.1 B * (sl (φ a) (Q.1 ^ p, Q.2 ^ p) (Q.1, - Q.2) * sl (φ a) (Q.1 ^ p, Q.2 ^ p) (Q.1, - Q.2) - Q.1 ^ p - Q.1)
  rw [s1, yp]
  rw [yp] at *
  generalize (Q.2 * Q.2) ^ e = H at *
  generalize Q.1 ^ p = T at *
  generalize (Q.1 - T)⁻¹ = i at *
  generalize ev h φ Q.1 A = A1 at *
  generalize ev h φ Q.1 B = B1 at *
  generalize ev h φ Q.1 cp = c1 at *
  have e1 : c1 * (B1 * ((- Q.2 - Q.2 * H) * i * ((- Q.2 - Q.2 * H) * i) - T - Q.1)) = c1 * A1 := by
    have e2 : c1 * (B1 * ((- Q.2 - Q.2 * H) * i * ((- Q.2 - Q.2 * H) * i) - T - Q.1)) = (c1 * B1) * ((Q.2 * Q.2) * ((H + 1) * (H + 1)) * (i * i)) - (c1 * B1) * (T + Q.1) := by grind
    rw [e2, v2, v1]
    have e3 : (T - Q.1) * (T - Q.1) * (Q.2 * Q.2 * ((H + 1) * (H + 1)) * (i * i)) = Q.2 * Q.2 * ((H + 1) * (H + 1)) * (((Q.1 - T) * i) * ((Q.1 - T) * i)) := by grind
    rw [e3, hi]; grind
  have e4 : c1 * (A1 - B1 * ((- Q.2 - Q.2 * H) * i * ((- Q.2 - Q.2 * H) * i) - T - Q.1)) = 0 := by
    rw [show c1 * (A1 - B1 * ((- Q.2 - Q.2 * H) * i * ((- Q.2 - Q.2 * H) * i) - T - Q.1)) = c1 * A1 - c1 * (B1 * ((- Q.2 - Q.2 * H) * i * ((- Q.2 - Q.2 * H) * i) - T - Q.1)) by grind, e1]; grind
  rcases Lean.Grind.Field.of_mul_eq_zero e4 with w | w
  · exact absurd w C0
  · grind
