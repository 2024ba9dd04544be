/-! points and their sums over a field -/
abbrev Pt (F : Type) := Option (F × F)
def onE {F : Type} [mFld F] (a b : F) : Pt F → Prop
  | none => True
  | some P => P.2 * P.2 = P.1 * P.1 * P.1 + a * P.1 + b
noncomputable def sl {F : Type} [mFld F] (a : F) (P Q : F × F) : F := @ite F (P.1 = Q.1) (Classical.propDecidable _) ((3 * P.1 * P.1 + a) * (2 * P.2)⁻¹) ((Q.2 - P.2) * (Q.1 - P.1)⁻¹)
def p3 {F : Type} [mFld F] (s : F) (P Q : F × F) : F × F := (s * s - P.1 - Q.1, s * (P.1 - (s * s - P.1 - Q.1)) - P.2)
noncomputable def ad {F : Type} [mFld F] (a : F) : Pt F → Pt F → Pt F
  | none, Q => Q
  | some P, none => some P
  | some P, some Q => @ite (Pt F) (P.1 = Q.1 ∧ P.2 + Q.2 = 0) (Classical.propDecidable _) none (some (p3 (sl a P Q) P Q))
def ng {F : Type} [mFld F] : Pt F → Pt F
  | none => none
  | some P => some (P.1, - P.2)
theorem ad_0 {F : Type} [mFld F] (a : F) (P : Pt F) : ad a P none = P := by cases P <;> rfl
theorem ad_inv {F : Type} [mFld F] {a : F} {P Q : F × F} (h1 : P.1 = Q.1) (h2 : P.2 + Q.2 = 0) : ad a (some P) (some Q) = none := if_pos ⟨h1, h2⟩
theorem ad_gen {F : Type} [mFld F] {a : F} {P Q : F × F} (h : ¬ (P.1 = Q.1 ∧ P.2 + Q.2 = 0)) : ad a (some P) (some Q) = some (p3 (sl a P Q) P Q) := if_neg h
/-- of two points that aren't opposite: the line, by its slope -/
theorem sl_line {F : Type} [mFld F] {a b : F} {P Q : F × F} (hP : onE a b (some P)) (hQ : onE a b (some Q)) (h : ¬ (P.1 = Q.1 ∧ P.2 + Q.2 = 0)) :
    Q.2 = P.2 + sl a P Q * (Q.1 - P.1) ∧ (P.1 ≠ Q.1 ∨ (P.1 = Q.1 ∧ P.2 = Q.2 ∧ 2 * P.2 ≠ 0 ∧ sl a P Q * (2 * P.2) = 3 * P.1 * P.1 + a)) := by
  unfold sl
  by_cases e : P.1 = Q.1
  · rw [if_pos e]
    have e2 : P.2 + Q.2 ≠ 0 := fun k => h ⟨e, k⟩
    have hP' : P.2 * P.2 = P.1 * P.1 * P.1 + a * P.1 + b := hP
    have hQ' : Q.2 * Q.2 = Q.1 * Q.1 * Q.1 + a * Q.1 + b := hQ
    have e3 : (P.2 + Q.2) * (P.2 - Q.2) = 0 := by rw [← e] at hQ'; grind
    have e4 : P.2 = Q.2 := by
      rcases Lean.Grind.Field.of_mul_eq_zero e3 with k | k
      · exact absurd k e2
      · grind
    have e5 : 2 * P.2 ≠ 0 := fun k => e2 (by rw [← e4]; grind)
    have e6 := Lean.Grind.Field.mul_inv_cancel e5
    refine ⟨?_, Or.inr ⟨e, e4, e5, ?_⟩⟩
    · rw [e4, e]; grind
    · grind
  · rw [if_neg e]
    have e1 : Q.1 - P.1 ≠ 0 := fun k => e (by grind)
    have e2 := Lean.Grind.Field.mul_inv_cancel e1
    exact ⟨by grind, Or.inl e⟩
/-! ideals -/
def idl {A : Type} [mRng A] (I : A → Prop) : Prop := I 0 ∧ (∀ s t, I s → I t → I (s + t)) ∧ ∀ r s, I s → I (r * s)
def ipr {A : Type} [mRng A] (I J : A → Prop) : A → Prop := fun z => ∀ L : A → Prop, idl L → (∀ s t, I s → J t → L (s * t)) → L z
def eqv {A : Type} [mRng A] (α : A) (I : A → Prop) (β : A) (J : A → Prop) : Prop := (∀ s, I s → ∃ t, J t ∧ α * s = β * t) ∧ ∀ t, J t → ∃ s, I s ∧ α * s = β * t
theorem ipr_idl {A : Type} [mRng A] (I J : A → Prop) : idl (ipr I J) :=
  ⟨fun L h _ => h.1, fun s t hs ht L h k => h.2.1 s t (hs L h k) (ht L h k), fun r s hs L h k => h.2.2 r s (hs L h k)⟩
theorem ipr_in {A : Type} [mRng A] {I J : A → Prop} {s t : A} (hs : I s) (ht : J t) : ipr I J (s * t) := fun L _ k => k s t hs ht
theorem idl_sub {A : Type} [mRng A] {I : A → Prop} (h : idl I) {s t : A} (hs : I s) (ht : I t) : I (s - t) := by
  have := h.2.1 s (-1 * t) hs (h.2.2 (-1) t ht)
  rwa [show s + -1 * t = s - t by grind] at this
theorem eqv_tr {A : Type} [mRng A] {α β γ δ : A} {I J K : A → Prop} (h : eqv α I β J) (g : eqv γ J δ K) : eqv (α * γ) I (β * δ) K := by
  refine ⟨fun s hs => ?_, fun t ht => ?_⟩
  · obtain ⟨t, ht, e⟩ := h.1 s hs; obtain ⟨w, hw, e2⟩ := g.1 t ht
    exact ⟨w, hw, by grind⟩
  · obtain ⟨w, hw, e⟩ := g.2 t ht; obtain ⟨s, hs, e2⟩ := h.2 w hw
    exact ⟨s, hs, by grind⟩
theorem eqv_sy {A : Type} [mRng A] {α β : A} {I J : A → Prop} (h : eqv α I β J) : eqv β J α I :=
  ⟨fun t ht => by obtain ⟨s, hs, e⟩ := h.2 t ht; exact ⟨s, hs, e.symm⟩, fun s hs => by obtain ⟨t, ht, e⟩ := h.1 s hs; exact ⟨t, ht, e.symm⟩⟩
theorem eqv_pr {A : Type} [mRng A] {α β : A} {I J : A → Prop} (K : A → Prop) (h : eqv α I β J) : eqv α (ipr I K) β (ipr J K) := by
  have one : ∀ {α β : A} {I J : A → Prop}, (∀ s, I s → ∃ t, J t ∧ α * s = β * t) → ∀ s, ipr I K s → ∃ t, ipr J K t ∧ α * s = β * t := by
    intro α β I J k s hs
    refine hs (fun s => ∃ t, ipr J K t ∧ α * s = β * t) ⟨⟨0, (ipr_idl J K).1, by grind⟩, fun s t hs ht => ?_, fun r s hs => ?_⟩ (fun s t hs ht => ?_)
    · obtain ⟨s', h1, h2⟩ := hs; obtain ⟨t', h3, h4⟩ := ht
      exact ⟨s' + t', (ipr_idl J K).2.1 _ _ h1 h3, by grind⟩
    · obtain ⟨s', h1, h2⟩ := hs
      exact ⟨r * s', (ipr_idl J K).2.2 _ _ h1, by grind⟩
    · obtain ⟨s', h1, h2⟩ := k s hs
      exact ⟨s' * t, ipr_in h1 ht, by grind⟩
  refine ⟨one h.1, fun t ht => ?_⟩
  obtain ⟨s, hs, e⟩ := one (α := β) (β := α) (I := J) (J := I) (fun t ht => by obtain ⟨s, hs, e⟩ := h.2 t ht; exact ⟨s, hs, e.symm⟩) t ht
  exact ⟨s, hs, e.symm⟩
theorem ipr_comm {A : Type} [mRng A] {I J : A → Prop} {z : A} (h : ipr I J z) : ipr J I z := fun L hL k => h L hL (fun s t hs ht => by rw [show s * t = t * s by grind]; exact k t s ht hs)
theorem ipr_as {A : Type} [mRng A] {I J K : A → Prop} {z : A} (h : ipr (ipr I J) K z) : ipr I (ipr J K) z := fun M hM k => by
  refine h M hM (fun s t hs ht => ?_)
  refine hs (fun s => ∀ t, K t → M (s * t)) ⟨fun t _ => by rw [show (0 : A) * t = 0 by grind]; exact hM.1, fun s s' h1 h2 t ht => by rw [show (s + s') * t = s * t + s' * t by grind]; exact hM.2.1 _ _ (h1 t ht) (h2 t ht), fun r s h1 t ht => by rw [show r * s * t = r * (s * t) by grind]; exact hM.2.2 _ _ (h1 t ht)⟩ (fun i l hi hl t ht => ?_) t ht
  rw [show i * l * t = i * (l * t) by grind]
  exact k i (l * t) hi (ipr_in hl ht)
theorem ipr_as' {A : Type} [mRng A] {I J K : A → Prop} {z : A} (h : ipr I (ipr J K) z) : ipr (ipr I J) K z := by
  have h1 : ipr (ipr K J) I z := ipr_comm (fun L hL k => h L hL (fun s t hs ht => k s t hs (ipr_comm ht)))
  have h2 := ipr_as h1
  exact ipr_comm (fun L hL k => h2 L hL (fun s t hs ht => k s t hs (ipr_comm ht)))
/-- the functions that are 0 at a point -/
def iP {F R A : Type} [mFld F] [mRng R] [mRng A] {co : R → Nat → F} {h : isPol co} {a b : F} {j : R → A} {y : A} {u v : A → R} (c : isCrv h a b j y u v) (P : Pt F) : A → Prop := match P with
  | none => fun _ => True
  | some P => fun α => evA c (fun x => x) P.1 P.2 α = 0
