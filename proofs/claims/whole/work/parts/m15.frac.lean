/-! fractions of a ring without divisors of 0 -/
def isDom (A : Type) [mRng A] : Prop := (∀ u v : A, u * v = 0 → u = 0 ∨ v = 0) ∧ (1 : A) ≠ 0
theorem dm_ne {A : Type} [mRng A] (hd : isDom A) {u v : A} (hu : u ≠ 0) (hv : v ≠ 0) : u * v ≠ 0 := fun k => by
  rcases hd.1 _ _ k with k | k
  · exact hu k
  · exact hv k
theorem dm_canc {A : Type} [mRng A] (hd : isDom A) {u v w : A} (hu : u ≠ 0) (e : u * v = u * w) : v = w := by
  rcases hd.1 u (v - w) (by grind) with k | k
  · exact absurd k hu
  · grind
abbrev Fr (A : Type) [mRng A] := {p : A × A // p.2 ≠ 0}
def frS {A : Type} [mRng A] (hd : isDom A) : Setoid (Fr A) :=
  ⟨fun p q => p.1.1 * q.1.2 = q.1.1 * p.1.2, fun _ => rfl, fun h => h.symm, fun {p q r} h1 h2 => dm_canc hd q.2 (by grind)⟩
abbrev Fq {A : Type} [mRng A] (hd : isDom A) := Quotient (frS hd)
def fr_add {A : Type} [mRng A] (hd : isDom A) (p q : Fr A) : Fr A := ⟨(p.1.1 * q.1.2 + q.1.1 * p.1.2, p.1.2 * q.1.2), dm_ne hd p.2 q.2⟩
def fr_mul {A : Type} [mRng A] (hd : isDom A) (p q : Fr A) : Fr A := ⟨(p.1.1 * q.1.1, p.1.2 * q.1.2), dm_ne hd p.2 q.2⟩
def fr_neg {A : Type} [mRng A] (p : Fr A) : Fr A := ⟨(- p.1.1, p.1.2), p.2⟩
noncomputable def fr_inv {A : Type} [mRng A] (hd : isDom A) (p : Fr A) : Fr A := @dite (Fr A) (p.1.1 = 0) (Classical.propDecidable _) (fun _ => ⟨(0, 1), hd.2⟩) (fun k => ⟨(p.1.2, p.1.1), k⟩)
theorem rl_f1 {A : Type} [mRng A] {a b c d a' b' c' d' : A} (h : a * b' = a' * b) (k : c * d' = c' * d) : (a * d + c * b) * (b' * d') = (a' * d' + c' * b') * (b * d) := by
  have : (a * d + c * b) * (b' * d') = (a * b') * (d * d') + (c * d') * (b * b') := by grind
  rw [this, h, k]; grind
theorem rl_f2 {A : Type} [mRng A] {a b c d a' b' c' d' : A} (h : a * b' = a' * b) (k : c * d' = c' * d) : a * c * (b' * d') = a' * c' * (b * d) := by
  have : a * c * (b' * d') = (a * b') * (c * d') := by grind
  rw [this, h, k]; grind
def fq_add {A : Type} [mRng A] (hd : isDom A) (x y : Fq hd) : Fq hd :=
  Quotient.liftOn₂ x y (fun p q => Quotient.mk (frS hd) (fr_add hd p q)) (fun _ _ _ _ h k => Quotient.sound (rl_f1 h k))
def fq_mul {A : Type} [mRng A] (hd : isDom A) (x y : Fq hd) : Fq hd :=
  Quotient.liftOn₂ x y (fun p q => Quotient.mk (frS hd) (fr_mul hd p q)) (fun _ _ _ _ h k => Quotient.sound (rl_f2 h k))
def fq_neg {A : Type} [mRng A] (hd : isDom A) (x : Fq hd) : Fq hd :=
  Quotient.liftOn x (fun p => Quotient.mk (frS hd) (fr_neg p)) (fun p q h => Quotient.sound (by show - p.1.1 * q.1.2 = - q.1.1 * p.1.2; have : p.1.1 * q.1.2 = q.1.1 * p.1.2 := h; grind))
noncomputable def fq_inv {A : Type} [mRng A] (hd : isDom A) (x : Fq hd) : Fq hd :=
  Quotient.liftOn x (fun p => Quotient.mk (frS hd) (fr_inv hd p)) (fun p q h => Quotient.sound (by
    have h' : p.1.1 * q.1.2 = q.1.1 * p.1.2 := h
    show (fr_inv hd p).1.1 * (fr_inv hd q).1.2 = (fr_inv hd q).1.1 * (fr_inv hd p).1.2
    unfold fr_inv
    by_cases z : p.1.1 = 0
    · have w : q.1.1 = 0 := by
        rcases hd.1 q.1.1 p.1.2 (by rw [← h', z]; grind) with k | k
        · exact k
        · exact absurd k p.2
      rw [dif_pos z, dif_pos w]
    · have w : q.1.1 ≠ 0 := fun w => by
        rcases hd.1 p.1.1 q.1.2 (by rw [h', w]; grind) with k | k
        · exact z k
        · exact absurd k q.2
      rw [dif_neg z, dif_neg w]
      show p.1.2 * q.1.1 = q.1.2 * p.1.1; grind))
def fq_ze {A : Type} [mRng A] (hd : isDom A) : Fq hd := Quotient.mk (frS hd) ⟨(0, 1), hd.2⟩
def fq_on {A : Type} [mRng A] (hd : isDom A) : Fq hd := Quotient.mk (frS hd) ⟨(1, 1), hd.2⟩
def fq_ring {A : Type} [mRng A] (hd : isDom A) : mRng (Fq hd) :=
  mk_ring (fq_add hd) (fq_mul hd) (fq_neg hd) (fq_ze hd) (fq_on hd)
    (fun x => Quotient.inductionOn x (fun p => Quotient.sound (by show (p.1.1 * 1 + 0 * p.1.2) * p.1.2 = p.1.1 * (p.1.2 * 1); grind)))
    (fun x y => Quotient.inductionOn₂ x y (fun p q => Quotient.sound (by show (p.1.1 * q.1.2 + q.1.1 * p.1.2) * (q.1.2 * p.1.2) = (q.1.1 * p.1.2 + p.1.1 * q.1.2) * (p.1.2 * q.1.2); grind)))
    (fun x y z => Quotient.inductionOn₃ x y z (fun p q r => Quotient.sound (by show ((p.1.1 * q.1.2 + q.1.1 * p.1.2) * r.1.2 + r.1.1 * (p.1.2 * q.1.2)) * (p.1.2 * (q.1.2 * r.1.2)) = (p.1.1 * (q.1.2 * r.1.2) + (q.1.1 * r.1.2 + r.1.1 * q.1.2) * p.1.2) * (p.1.2 * q.1.2 * r.1.2); grind)))
    (fun x y z => Quotient.inductionOn₃ x y z (fun p q r => Quotient.sound (by show p.1.1 * q.1.1 * r.1.1 * (p.1.2 * (q.1.2 * r.1.2)) = p.1.1 * (q.1.1 * r.1.1) * (p.1.2 * q.1.2 * r.1.2); grind)))
    (fun x => Quotient.inductionOn x (fun p => Quotient.sound (by show p.1.1 * 1 * p.1.2 = p.1.1 * (p.1.2 * 1); grind)))
    (fun x y z => Quotient.inductionOn₃ x y z (fun p q r => Quotient.sound (by show p.1.1 * (q.1.1 * r.1.2 + r.1.1 * q.1.2) * (p.1.2 * q.1.2 * (p.1.2 * r.1.2)) = (p.1.1 * q.1.1 * (p.1.2 * r.1.2) + p.1.1 * r.1.1 * (p.1.2 * q.1.2)) * (p.1.2 * (q.1.2 * r.1.2)); grind)))
    (fun x y => Quotient.inductionOn₂ x y (fun p q => Quotient.sound (by show p.1.1 * q.1.1 * (q.1.2 * p.1.2) = q.1.1 * p.1.1 * (p.1.2 * q.1.2); grind)))
    (fun x => Quotient.inductionOn x (fun p => Quotient.sound (by show (- p.1.1 * p.1.2 + p.1.1 * p.1.2) * 1 = 0 * (p.1.2 * p.1.2); grind)))
theorem fq_zero {A : Type} [mRng A] (hd : isDom A) : (letI := fq_ring hd; (0 : Fq hd)) = fq_ze hd := rfl
theorem fq_one {A : Type} [mRng A] (hd : isDom A) : (letI := fq_ring hd; (1 : Fq hd)) = fq_on hd := mk_ring_one _ _ _ _ _ _ _ _ _ _ _ _ _
noncomputable def fq_field {A : Type} [mRng A] (hd : isDom A) : mFld (Fq hd) :=
  mk_field (fq_ring hd) (fq_inv hd)
    (by
      rw [fq_one, fq_zero]
      intro k
      have : (0 : A) * 1 = 1 * 1 := Quotient.exact k
      exact hd.2 (by grind))
    (by
      rw [fq_zero]
      show Quotient.mk (frS hd) (fr_inv hd ⟨(0, 1), hd.2⟩) = Quotient.mk (frS hd) ⟨(0, 1), hd.2⟩
      congr 1
      exact dif_pos rfl)
    (fun {x} => by
      rw [fq_one, fq_zero]
      refine Quotient.inductionOn x (fun p hp => ?_)
      have z : p.1.1 ≠ 0 := fun z => hp (Quotient.sound (by show p.1.1 * 1 = 0 * p.1.2; rw [z]; grind))
      refine Quotient.sound ?_
      show p.1.1 * (fr_inv hd p).1.1 * 1 = 1 * (p.1.2 * (fr_inv hd p).1.2)
      unfold fr_inv
      rw [dif_neg z]
      show p.1.1 * p.1.2 * 1 = 1 * (p.1.2 * p.1.1); grind)
theorem frac_ex {A : Type} [mRng A] (hd : isDom A) : ∃ (K : Type) (_ : mFld K) (ι : A → K), isHom ι ∧ (∀ u, ι u = 0 → u = 0) ∧ ∀ z, ∃ u v, v ≠ 0 ∧ z * ι v = ι u := by
  refine ⟨Fq hd, fq_field hd, fun u => Quotient.mk (frS hd) ⟨(u, 1), hd.2⟩, ⟨(fq_one hd).symm, fun u v => Quotient.sound ?_, fun u v => Quotient.sound ?_⟩, fun u k => ?_, fun z => ?_⟩
  · show (u + v) * (1 * 1) = (u * 1 + v * 1) * 1; grind
  · show (u * v) * (1 * 1) = (u * v) * 1; grind
  · have : u * 1 = 0 * 1 := Quotient.exact k
    grind
  · refine Quotient.inductionOn z (fun p => ⟨p.1.1, p.1.2, p.2, Quotient.sound ?_⟩)
    show p.1.1 * p.1.2 * 1 = p.1.1 * (p.1.2 * 1); grind
