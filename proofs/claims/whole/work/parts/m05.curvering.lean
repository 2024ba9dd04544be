/-! the ring of a curve: polynomials in x and y with y^2 = x^3 + a x + b -/
noncomputable def fC {F R : Type} [mRng F] [mRng R] {co : R → Nat → F} (h : isPol co) (a b : F) : R := pX h * pX h * pX h + pC h a * pX h + pC h b
def isCrv {F R A : Type} [mRng F] [mRng R] [mRng A] {co : R → Nat → F} (h : isPol co) (a b : F) (j : R → A) (y : A) (u v : A → R) : Prop :=
  isHom j ∧ y * y = j (fC h a b) ∧ (∀ α, α = j (u α) + j (v α) * y) ∧ (∀ p q, u (j p + j q * y) = p ∧ v (j p + j q * y) = q)
def cr_ring {R : Type} [mRng R] (f : R) : mRng (R × R) :=
  mk_ring (fun α β => (α.1 + β.1, α.2 + β.2)) (fun α β => (α.1 * β.1 + f * (α.2 * β.2), α.1 * β.2 + α.2 * β.1)) (fun α => (-α.1, -α.2)) (0, 0) (1, 0)
    (fun α => Prod.ext (by show α.1 + 0 = α.1; grind) (by show α.2 + 0 = α.2; grind))
    (fun α β => Prod.ext (by show α.1 + β.1 = β.1 + α.1; grind) (by show α.2 + β.2 = β.2 + α.2; grind))
    (fun α β γ => Prod.ext (by show α.1 + β.1 + γ.1 = α.1 + (β.1 + γ.1); grind) (by show α.2 + β.2 + γ.2 = α.2 + (β.2 + γ.2); grind))
    (fun α β γ => Prod.ext (by show (α.1 * β.1 + f * (α.2 * β.2)) * γ.1 + f * ((α.1 * β.2 + α.2 * β.1) * γ.2) = α.1 * (β.1 * γ.1 + f * (β.2 * γ.2)) + f * (α.2 * (β.1 * γ.2 + β.2 * γ.1)); grind) (by show (α.1 * β.1 + f * (α.2 * β.2)) * γ.2 + (α.1 * β.2 + α.2 * β.1) * γ.1 = α.1 * (β.1 * γ.2 + β.2 * γ.1) + α.2 * (β.1 * γ.1 + f * (β.2 * γ.2)); grind))
    (fun α => Prod.ext (by show α.1 * 1 + f * (α.2 * 0) = α.1; grind) (by show α.1 * 0 + α.2 * 1 = α.2; grind))
    (fun α β γ => Prod.ext (by show α.1 * (β.1 + γ.1) + f * (α.2 * (β.2 + γ.2)) = (α.1 * β.1 + f * (α.2 * β.2)) + (α.1 * γ.1 + f * (α.2 * γ.2)); grind) (by show α.1 * (β.2 + γ.2) + α.2 * (β.1 + γ.1) = (α.1 * β.2 + α.2 * β.1) + (α.1 * γ.2 + α.2 * γ.1); grind))
    (fun α β => Prod.ext (by show α.1 * β.1 + f * (α.2 * β.2) = β.1 * α.1 + f * (β.2 * α.2); grind) (by show α.1 * β.2 + α.2 * β.1 = β.1 * α.2 + β.2 * α.1; grind))
    (fun α => Prod.ext (by show - α.1 + α.1 = 0; grind) (by show - α.2 + α.2 = 0; grind))
theorem cr_one {R : Type} [mRng R] (f : R) : (letI := cr_ring f; (1 : R × R)) = (1, 0) := mk_ring_one _ _ _ _ _ _ _ _ _ _ _ _ _
theorem crv_ex {F R : Type} [mRng F] [mRng R] {co : R → Nat → F} (h : isPol co) (a b : F) : ∃ (A : Type) (_ : mRng A) (j : R → A) (y : A) (u v : A → R), isCrv h a b j y u v := by
  refine ⟨R × R, cr_ring (fC h a b), fun p => (p, 0), (0, 1), fun α => α.1, fun α => α.2, ⟨(cr_one _).symm, fun p q => Prod.ext rfl (by show (0 : R) = 0 + 0; grind), fun p q => Prod.ext (by show p * q = p * q + fC h a b * (0 * 0); grind) (by show (0 : R) = p * 0 + 0 * q; grind)⟩, Prod.ext (by show 0 * 0 + fC h a b * (1 * 1) = fC h a b; grind) (by show (0 : R) * 1 + 1 * 0 = 0; grind), fun α => Prod.ext (by show α.1 = α.1 + (α.2 * 0 + fC h a b * (0 * 1)); grind) (by show α.2 = 0 + (α.2 * 1 + 0 * 0); grind), fun p q => ⟨by show p + (q * 0 + fC h a b * (0 * 1)) = p; grind, by show 0 + (q * 1 + 0 * 0) = q; grind⟩⟩
theorem cv_ext {F R A : Type} [mRng F] [mRng R] [mRng A] {co : R → Nat → F} {h : isPol co} {a b : F} {j : R → A} {y : A} {u v : A → R} (c : isCrv h a b j y u v) {α β : A} (h1 : u α = u β) (h2 : v α = v β) : α = β := by
  rw [c.2.2.1 α, c.2.2.1 β, h1, h2]
theorem cv_uv {F R A : Type} [mRng F] [mRng R] [mRng A] {co : R → Nat → F} {h : isPol co} {a b : F} {j : R → A} {y : A} {u v : A → R} (c : isCrv h a b j y u v) {α : A} {p q : R} (e : α = j p + j q * y) : u α = p ∧ v α = q := by
  rw [e]; exact c.2.2.2 p q
theorem cv_add {F R A : Type} [mRng F] [mRng R] [mRng A] {co : R → Nat → F} {h : isPol co} {a b : F} {j : R → A} {y : A} {u v : A → R} (c : isCrv h a b j y u v) (α β : A) : u (α + β) = u α + u β ∧ v (α + β) = v α + v β :=
  cv_uv c (by rw [hm_add c.1, hm_add c.1]; have h1 := c.2.2.1 α; have h2 := c.2.2.1 β; grind)
theorem cv_mul {F R A : Type} [mRng F] [mRng R] [mRng A] {co : R → Nat → F} {h : isPol co} {a b : F} {j : R → A} {y : A} {u v : A → R} (c : isCrv h a b j y u v) (α β : A) : u (α * β) = u α * u β + fC h a b * (v α * v β) ∧ v (α * β) = u α * v β + v α * u β :=
  cv_uv c (by
    rw [hm_add c.1, hm_mul c.1, hm_mul c.1, hm_mul c.1, hm_add c.1, hm_mul c.1, hm_mul c.1]
    have h1 := c.2.2.1 α; have h2 := c.2.2.1 β; have h3 := c.2.1
    rw [← h3]
    generalize j (u α) = p at *; generalize j (v α) = q at *; generalize j (u β) = r at *; generalize j (v β) = s at *
    rw [h1, h2]; grind)
theorem cv_j {F R A : Type} [mRng F] [mRng R] [mRng A] {co : R → Nat → F} {h : isPol co} {a b : F} {j : R → A} {y : A} {u v : A → R} (c : isCrv h a b j y u v) (p : R) : u (j p) = p ∧ v (j p) = 0 :=
  cv_uv c (by rw [hm_zero c.1]; grind)
theorem cv_0 {F R A : Type} [mRng F] [mRng R] [mRng A] {co : R → Nat → F} {h : isPol co} {a b : F} {j : R → A} {y : A} {u v : A → R} (c : isCrv h a b j y u v) : u 0 = 0 ∧ v 0 = 0 :=
  cv_uv c (by rw [hm_zero c.1]; grind)
theorem cv_neg {F R A : Type} [mRng F] [mRng R] [mRng A] {co : R → Nat → F} {h : isPol co} {a b : F} {j : R → A} {y : A} {u v : A → R} (c : isCrv h a b j y u v) (α : A) : u (-α) = - u α ∧ v (-α) = - v α :=
  cv_uv c (by rw [hm_neg c.1, hm_neg c.1]; have h1 := c.2.2.1 α; grind)
theorem cv_ne {F R A : Type} [mRng F] [mRng R] [mRng A] {co : R → Nat → F} {h : isPol co} {a b : F} {j : R → A} {y : A} {u v : A → R} (c : isCrv h a b j y u v) {α : A} (e : α ≠ 0) : u α ≠ 0 ∨ v α ≠ 0 := by
  by_cases k : u α = 0
  · exact Or.inr (fun l => e (by rw [c.2.2.1 α, k, l, hm_zero c.1]; grind))
  · exact Or.inl k
/-- the norm, and the degree: x has 2, y has 3 -/
noncomputable def nm {F R A : Type} [mRng F] [mRng R] [mRng A] {co : R → Nat → F} {h : isPol co} {a b : F} {j : R → A} {y : A} {u v : A → R} (_ : isCrv h a b j y u v) (α : A) : R := u α * u α - fC h a b * (v α * v α)
noncomputable def dA {F R A : Type} [mRng F] [mRng R] [mRng A] {co : R → Nat → F} {h : isPol co} {a b : F} {j : R → A} {y : A} {u v : A → R} (_ : isCrv h a b j y u v) (α : A) : Nat := if sz h (v α) = 0 then 2 * sz h (u α) - 2 else (if 2 * sz h (u α) ≤ 2 * sz h (v α) + 3 then 2 * sz h (v α) + 1 else 2 * sz h (u α) - 2)
theorem nm_mul {F R A : Type} [mRng F] [mRng R] [mRng A] {co : R → Nat → F} {h : isPol co} {a b : F} {j : R → A} {y : A} {u v : A → R} (c : isCrv h a b j y u v) (α β : A) : nm c (α * β) = nm c α * nm c β := by
  unfold nm; rw [(cv_mul c α β).1, (cv_mul c α β).2]; grind
theorem sz_f {F R : Type} [mFld F] [mRng R] {co : R → Nat → F} (h : isPol co) (a b : F) : sz h (fC h a b) = 4 := by
  have e1 := sz_mul h (sz_mul h (sz_X h) (sz_X h)) (sz_X h)
  unfold fC
  rw [show pX h * pX h * pX h + pC h a * pX h + pC h b = pX h * pX h * pX h + (pC h a * pX h + pC h b) by grind]
  have e2 : sz h (pC h a * pX h + pC h b) ≤ 2 := sz_add h (sz_mle h (d := 0) (e := 1) (sz_Cle h a) (Nat.le_of_eq (sz_X h))).1 (Nat.le_succ_of_le (sz_Cle h b))
  rw [sz_addl h (by omega), e1]
theorem nm_sz {F R A : Type} [mFld F] [mRng R] [mRng A] {co : R → Nat → F} {h : isPol co} {a b : F} {j : R → A} {y : A} {u v : A → R} (c : isCrv h a b j y u v) {α : A} (e : α ≠ 0) : sz h (nm c α) = dA c α + 1 := by
  unfold nm dA
  by_cases hv : v α = 0
  · rw [hv, sz_zero, if_pos rfl, show u α * u α - fC h a b * (0 * 0) = u α * u α by grind]
    have hu : u α ≠ 0 := (cv_ne c e).resolve_right (fun k => k hv)
    obtain ⟨d, hd⟩ := sz_pos h hu
    rw [sz_mul h hd hd, hd]; omega
  · obtain ⟨m, hm⟩ := sz_pos h hv
    have h1 : sz h (fC h a b * (v α * v α)) = 2 * m + 4 := by rw [sz_mul h (sz_f h a b) (sz_mul h hm hm)]; omega
    rw [hm, if_neg (by omega)]
    by_cases hu : u α = 0
    · rw [hu, sz_zero, if_pos (by omega), show (0 : R) * 0 - fC h a b * (v α * v α) = - (fC h a b * (v α * v α)) by grind, sz_neg, h1]; omega
    · obtain ⟨d, hd⟩ := sz_pos h hu
      have h2 := sz_mul h hd hd
      rw [hd]
      by_cases k : 2 * (d + 1) ≤ 2 * (m + 1) + 3
      · rw [if_pos k, show u α * u α - fC h a b * (v α * v α) = - (fC h a b * (v α * v α)) + u α * u α by grind, sz_addl h (by rw [sz_neg, h1, h2]; omega), sz_neg, h1]; omega
      · rw [if_neg k, show u α * u α - fC h a b * (v α * v α) = u α * u α + - (fC h a b * (v α * v α)) by grind, sz_addl h (by rw [sz_neg, h1, h2]; omega), h2]; omega
theorem nm_ne {F R A : Type} [mFld F] [mRng R] [mRng A] {co : R → Nat → F} {h : isPol co} {a b : F} {j : R → A} {y : A} {u v : A → R} (c : isCrv h a b j y u v) {α : A} (e : α ≠ 0) : nm c α ≠ 0 := fun k => by
  have := nm_sz c e; rw [k, sz_zero] at this; omega
theorem cv_dom {F R A : Type} [mFld F] [mRng R] [mRng A] {co : R → Nat → F} {h : isPol co} {a b : F} {j : R → A} {y : A} {u v : A → R} (c : isCrv h a b j y u v) {α β : A} (e : α * β = 0) : α = 0 ∨ β = 0 := by
  by_cases h1 : α = 0
  · exact Or.inl h1
  · by_cases h2 : β = 0
    · exact Or.inr h2
    · have := nm_mul c α β
      rw [e] at this
      have h3 : nm c (0 : A) = 0 := by unfold nm; rw [(cv_0 c).1, (cv_0 c).2]; grind
      rw [h3] at this
      rcases po_dom h this.symm with k | k
      · exact absurd k (nm_ne c h1)
      · exact absurd k (nm_ne c h2)
theorem cv_canc {F R A : Type} [mFld F] [mRng R] [mRng A] {co : R → Nat → F} {h : isPol co} {a b : F} {j : R → A} {y : A} {u v : A → R} (c : isCrv h a b j y u v) {α β γ : A} (hα : α ≠ 0) (e : α * β = α * γ) : β = γ := by
  rcases cv_dom c (α := α) (β := β - γ) (by grind) with k | k
  · exact absurd k hα
  · grind
theorem dA_mul {F R A : Type} [mFld F] [mRng R] [mRng A] {co : R → Nat → F} {h : isPol co} {a b : F} {j : R → A} {y : A} {u v : A → R} (c : isCrv h a b j y u v) {α β : A} (h1 : α ≠ 0) (h2 : β ≠ 0) : dA c (α * β) = dA c α + dA c β := by
  have h3 : α * β ≠ 0 := fun k => by rcases cv_dom c k with k | k; exact h1 k; exact h2 k
  have e1 := nm_sz c h3
  rw [nm_mul c, sz_mul h (nm_sz c h1) (nm_sz c h2)] at e1
  omega
theorem dA_n1 {F R A : Type} [mRng F] [mRng R] [mRng A] {co : R → Nat → F} {h : isPol co} {a b : F} {j : R → A} {y : A} {u v : A → R} (c : isCrv h a b j y u v) (α : A) : dA c α ≠ 1 := by
  unfold dA; split
  · omega
  · split <;> omega
theorem dA_0 {F R A : Type} [mRng F] [mRng R] [mRng A] {co : R → Nat → F} {h : isPol co} {a b : F} {j : R → A} {y : A} {u v : A → R} (c : isCrv h a b j y u v) {α : A} (e : dA c α = 0) : α = j (pC h (co (u α) 0)) := by
  have k : sz h (v α) = 0 ∧ sz h (u α) ≤ 1 := by
    unfold dA at e; split at e
    · omega
    · split at e <;> omega
  have h1 := c.2.2.1 α
  rw [sz_0 h k.1, hm_zero c.1] at h1
  rw [← sz_1 h k.2, show α = j (u α) by grind]
  rw [(cv_j c (u α)).1]
theorem dA_2 {F R A : Type} [mFld F] [mRng R] [mRng A] {co : R → Nat → F} {h : isPol co} {a b : F} {j : R → A} {y : A} {u v : A → R} (c : isCrv h a b j y u v) {α : A} (e : dA c α = 2) : ∃ k e, k ≠ 0 ∧ α = j (pC h k) * j (pX h - pC h e) := by
  have k : sz h (v α) = 0 ∧ sz h (u α) = 1 + 1 := by
    unfold dA at e; split at e
    · omega
    · split at e <;> omega
  have h1 := c.2.2.1 α
  rw [sz_0 h k.1, hm_zero c.1] at h1
  have ht := sz_top h k.2
  refine ⟨co (u α) 1, - (co (u α) 0 * (co (u α) 1)⁻¹), ht, ?_⟩
  rw [← hm_mul c.1]
  have e2 : u α = pC h (co (u α) 1) * (pX h - pC h (- (co (u α) 0 * (co (u α) 1)⁻¹))) := po_ext h (fun n => by
    rw [co_Cm h, po_sub h, co_X h, co_C h]
    have h3 := Lean.Grind.Field.mul_inv_cancel ht
    by_cases n0 : n = 0
    · rw [n0, if_neg (by omega), if_pos rfl]; grind
    · by_cases n1 : n = 1
      · rw [n1, if_pos rfl, if_neg (by omega)]; grind
      · rw [if_neg n1, if_neg n0, sz_end h (u α) (by omega)]; grind)
  rw [← e2, show α = j (u α) by grind, (cv_j c (u α)).1]
theorem dA_j {F R A : Type} [mRng F] [mRng R] [mRng A] {co : R → Nat → F} {h : isPol co} {a b : F} {j : R → A} {y : A} {u v : A → R} (c : isCrv h a b j y u v) (p : R) : dA c (j p) = 2 * sz h p - 2 := by
  unfold dA; rw [(cv_j c p).1, (cv_j c p).2, sz_zero, if_pos rfl]
theorem dA_add {F R A : Type} [mRng F] [mRng R] [mRng A] {co : R → Nat → F} {h : isPol co} {a b : F} {j : R → A} {y : A} {u v : A → R} (c : isCrv h a b j y u v) {α β : A} {d : Nat} (h1 : dA c α ≤ d) (h2 : dA c β ≤ d) : dA c (α + β) ≤ d := by
  have k : ∀ γ : A, dA c γ ≤ d ↔ (2 * sz h (u γ) ≤ d + 2 ∧ (sz h (v γ) = 0 ∨ 2 * sz h (v γ) + 1 ≤ d)) := fun γ => by
    unfold dA; split
    · omega
    · split <;> omega
  have m := (k α).mp h1
  have n := (k β).mp h2
  refine (k (α + β)).mpr ⟨?_, ?_⟩
  · have := sz_add h (p := u α) (q := u β) (d := (d + 2) / 2) (by omega) (by omega)
    rw [(cv_add c α β).1]; omega
  · by_cases z : sz h (v (α + β)) = 0
    · exact Or.inl z
    · have := sz_add h (p := v α) (q := v β) (d := (d - 1) / 2) (by omega) (by omega)
      rw [(cv_add c α β).2] at z ⊢
      right; omega
theorem cv_y {F R A : Type} [mRng F] [mRng R] [mRng A] {co : R → Nat → F} {h : isPol co} {a b : F} {j : R → A} {y : A} {u v : A → R} (c : isCrv h a b j y u v) (p q : R) : u (j p + j q * y) = p ∧ v (j p + j q * y) = q := c.2.2.2 p q
theorem dA_y {F R A : Type} [mFld F] [mRng R] [mRng A] {co : R → Nat → F} {h : isPol co} {a b : F} {j : R → A} {y : A} {u v : A → R} (c : isCrv h a b j y u v) (k : F) : dA c (y - j (pC h k)) = 3 := by
  have e : y - j (pC h k) = j (- pC h k) + j 1 * y := by rw [hm_neg c.1, hm_one c.1]; grind
  have h1 := cv_uv c e
  unfold dA
  have h2 : sz h (1 : R) = 1 := by rw [← pC_one h]; exact sz_C h (fun k => Lean.Grind.Field.zero_ne_one k.symm)
  have h3 : sz h (- pC h k) ≤ 1 := by rw [sz_neg]; exact sz_Cle h k
  rw [h1.1, h1.2, h2, if_neg (by omega), if_pos (by omega)]
theorem dA_x {F R A : Type} [mFld F] [mRng R] [mRng A] {co : R → Nat → F} {h : isPol co} {a b : F} {j : R → A} {y : A} {u v : A → R} (c : isCrv h a b j y u v) (k : F) : dA c (j (pX h - pC h k)) = 2 := by
  rw [dA_j, sz_XC]
/-- values at a point -/
noncomputable def evA {F R A L : Type} [mRng F] [mRng R] [mRng A] [mRng L] {co : R → Nat → F} {h : isPol co} {a b : F} {j : R → A} {y : A} {u v : A → R} (_ : isCrv h a b j y u v) (φ : F → L) (ξ η : L) (α : A) : L := ev h φ ξ (u α) + ev h φ ξ (v α) * η
theorem ev_f {F R L : Type} [mRng F] [mRng R] [mRng L] {co : R → Nat → F} (h : isPol co) {φ : F → L} (hφ : isHom φ) (a b : F) (ξ : L) : ev h φ ξ (fC h a b) = ξ * ξ * ξ + φ a * ξ + φ b := by
  have hh := ev_hom h hφ ξ
  unfold fC; rw [hm_add hh, hm_add hh, hm_mul hh, hm_mul hh, hm_mul hh, ev_X h hφ, ev_C h hφ, ev_C h hφ]
theorem evA_hom {F R A L : Type} [mRng F] [mRng R] [mRng A] [mRng L] {co : R → Nat → F} {h : isPol co} {a b : F} {j : R → A} {y : A} {u v : A → R} (c : isCrv h a b j y u v) {φ : F → L} (hφ : isHom φ) {ξ η : L} (e : η * η = ξ * ξ * ξ + φ a * ξ + φ b) : isHom (evA c φ ξ η) := by
  have hh := ev_hom h hφ ξ
  refine ⟨?_, fun α β => ?_, fun α β => ?_⟩
  · unfold evA
    have h1 := cv_j c (1 : R)
    rw [hm_one c.1] at h1
    rw [h1.1, h1.2, hm_one hh, hm_zero hh]; grind
  · unfold evA; rw [(cv_add c α β).1, (cv_add c α β).2, hm_add hh, hm_add hh]; grind
  · unfold evA; rw [(cv_mul c α β).1, (cv_mul c α β).2, hm_add hh, hm_add hh, hm_mul hh, hm_mul hh, hm_mul hh, hm_mul hh, hm_mul hh, ev_f h hφ]; grind
theorem evA_j {F R A L : Type} [mRng F] [mRng R] [mRng A] [mRng L] {co : R → Nat → F} {h : isPol co} {a b : F} {j : R → A} {y : A} {u v : A → R} (c : isCrv h a b j y u v) {φ : F → L} (hφ : isHom φ) (ξ η : L) (p : R) : evA c φ ξ η (j p) = ev h φ ξ p := by
  unfold evA; rw [(cv_j c p).1, (cv_j c p).2, hm_zero (ev_hom h hφ ξ)]; grind
theorem evA_y {F R A L : Type} [mRng F] [mRng R] [mRng A] [mRng L] {co : R → Nat → F} {h : isPol co} {a b : F} {j : R → A} {y : A} {u v : A → R} (c : isCrv h a b j y u v) {φ : F → L} (hφ : isHom φ) (ξ η : L) : evA c φ ξ η y = η := by
  have h1 := cv_uv c (α := y) (p := 0) (q := 1) (by rw [hm_zero c.1, hm_one c.1]; grind)
  unfold evA; rw [h1.1, h1.2, hm_zero (ev_hom h hφ ξ), hm_one (ev_hom h hφ ξ)]; grind
