theorem ad_comm {F : Type} [mFld F] {a b : F} (h2 : (2 : F) ≠ 0) (hns : 4 * a * a * a + 27 * b * b ≠ 0) {P Q : Pt F} (hP : onE a b P) (hQ : onE a b Q) : ad a P Q = ad a Q P := by
  obtain ⟨R, iR, co, h⟩ := pol_ex F
  obtain ⟨A, iA, j, y, u, v, c⟩ := crv_ex h a b
  obtain ⟨o1, α1, β1, a1, b1, e1⟩ := iP_sum c h2 hns hP hQ
  obtain ⟨o2, α2, β2, a2, b2, e2⟩ := iP_sum c h2 hns hQ hP
  have n : ∀ {s t : A}, s ≠ 0 → t ≠ 0 → s * t ≠ 0 := fun hs ht k => by
    rcases cv_dom c k with k | k
    · exact hs k
    · exact ht k
  have e3 : eqv α2 (iP c (ad a Q P)) β2 (ipr (iP c P) (iP c Q)) :=
    ⟨fun s hs => by obtain ⟨t, h4, h5⟩ := e2.1 s hs; exact ⟨t, ipr_comm h4, h5⟩, fun t ht => e2.2 t (ipr_comm ht)⟩
  exact iP_inj c o1 o2 (n a1 b2) (n b1 a2) (eqv_tr e1 (eqv_sy e3))
theorem on_ng {F : Type} [mFld F] {a b : F} {P : Pt F} (hP : onE a b P) : onE a b (ng P) := by
  cases P with
  | none => trivial
  | some P => show - P.2 * - P.2 = P.1 * P.1 * P.1 + a * P.1 + b; rw [← show P.2 * P.2 = P.1 * P.1 * P.1 + a * P.1 + b from hP]; grind
theorem ad_ng {F : Type} [mFld F] (a : F) (P : Pt F) : ad a P (ng P) = none := by
  cases P with
  | none => rfl
  | some P => exact ad_inv rfl (by show P.2 + - P.2 = 0; grind)
/-! groups that commute -/
def isAb {G : Type} (op : G → G → G) (e : G) (iv : G → G) : Prop := (∀ a b c, op (op a b) c = op a (op b c)) ∧ (∀ a b, op a b = op b a) ∧ (∀ a, op a e = a) ∧ ∀ a, op a (iv a) = e
abbrev EP {F : Type} [mFld F] (a b : F) := {P : Pt F // onE a b P}
noncomputable def eo {F : Type} [mFld F] {a b : F} (h2 : (2 : F) ≠ 0) (hns : 4 * a * a * a + 27 * b * b ≠ 0) (P Q : EP a b) : EP a b := ⟨ad a P.1 Q.1, ad_on h2 hns P.2 Q.2⟩
def ez {F : Type} [mFld F] {a b : F} : EP a b := ⟨none, trivial⟩
def en {F : Type} [mFld F] {a b : F} (P : EP a b) : EP a b := ⟨ng P.1, on_ng P.2⟩
theorem ep_ab {F : Type} [mFld F] {a b : F} (h2 : (2 : F) ≠ 0) (hns : 4 * a * a * a + 27 * b * b ≠ 0) : isAb (eo h2 hns) (ez (a := a) (b := b)) en :=
  ⟨fun P Q S => Subtype.ext (ad_assoc h2 hns P.2 Q.2 S.2), fun P Q => Subtype.ext (ad_comm h2 hns P.2 Q.2), fun P => Subtype.ext (ad_0 a P.1), fun P => Subtype.ext (ad_ng a P.1)⟩
def gm {G : Type} (op : G → G → G) (e : G) : Nat → G → G
  | 0, _ => e
  | n + 1, x => op (gm op e n x) x
theorem ab_0l {G : Type} {op : G → G → G} {e : G} {iv : G → G} (h : isAb op e iv) (x : G) : op e x = x := by rw [h.2.1, h.2.2.1]
theorem ab_canc {G : Type} {op : G → G → G} {e : G} {iv : G → G} (h : isAb op e iv) {x y z : G} (k : op x y = op x z) : y = z := by
  have : op (iv x) (op x y) = op (iv x) (op x z) := by rw [k]
  rw [← h.1, ← h.1, h.2.1 (iv x) x, h.2.2.2, ab_0l h, ab_0l h] at this; exact this
theorem ab_sub {G : Type} {op : G → G → G} {e : G} {iv : G → G} (h : isAb op e iv) (x y : G) : op (op x y) (iv y) = x := by rw [h.1, h.2.2.2, h.2.2.1]
theorem ab_sub' {G : Type} {op : G → G → G} {e : G} {iv : G → G} (h : isAb op e iv) (x y : G) : op (op x (iv y)) y = x := by rw [h.1, h.2.1 (iv y), h.2.2.2, h.2.2.1]
theorem ab_ivu {G : Type} {op : G → G → G} {e : G} {iv : G → G} (h : isAb op e iv) {x y : G} (k : op x y = e) : y = iv x := ab_canc h (x := x) (by rw [k, h.2.2.2])
theorem ab_iviv {G : Type} {op : G → G → G} {e : G} {iv : G → G} (h : isAb op e iv) (x : G) : iv (iv x) = x := (ab_ivu h (by rw [h.2.1, h.2.2.2])).symm
theorem ab_ive {G : Type} {op : G → G → G} {e : G} {iv : G → G} (h : isAb op e iv) : iv e = e := (ab_ivu h (h.2.2.1 e)).symm
theorem ab_ivo {G : Type} {op : G → G → G} {e : G} {iv : G → G} (h : isAb op e iv) (x y : G) : iv (op x y) = op (iv x) (iv y) := by
  refine (ab_ivu h ?_).symm
  rw [h.1, ← h.1 y, h.2.1 y, h.1 (iv x), h.2.2.2, h.2.2.1, h.2.2.2]
theorem ab_4 {G : Type} {op : G → G → G} {e : G} {iv : G → G} (h : isAb op e iv) (x y z w : G) : op (op x y) (op z w) = op (op x z) (op y w) := by
  rw [h.1, h.1, ← h.1 y z w, h.2.1 y z, h.1 z y w]
theorem gm_add {G : Type} {op : G → G → G} {e : G} {iv : G → G} (h : isAb op e iv) (m n : Nat) (x : G) : gm op e (m + n) x = op (gm op e m x) (gm op e n x) := by
  induction n with
  | zero => show gm op e m x = op (gm op e m x) e; rw [h.2.2.1]
  | succ n ih => show op (gm op e (m + n) x) x = op (gm op e m x) (op (gm op e n x) x); rw [ih, h.1]
theorem gm_op {G : Type} {op : G → G → G} {e : G} {iv : G → G} (h : isAb op e iv) (n : Nat) (x y : G) : gm op e n (op x y) = op (gm op e n x) (gm op e n y) := by
  induction n with
  | zero => show e = op e e; rw [h.2.2.1]
  | succ n ih => show op (gm op e n (op x y)) (op x y) = op (op (gm op e n x) x) (op (gm op e n y) y); rw [ih]; exact ab_4 h _ _ _ _
theorem gm_e {G : Type} {op : G → G → G} {e : G} {iv : G → G} (h : isAb op e iv) (n : Nat) : gm op e n e = e := by
  induction n with
  | zero => rfl
  | succ n ih => show op (gm op e n e) e = e; rw [ih, h.2.2.1]
theorem gm_1 {G : Type} {op : G → G → G} {e : G} {iv : G → G} (h : isAb op e iv) (x : G) : gm op e 1 x = x := ab_0l h x
theorem gm_mul {G : Type} {op : G → G → G} {e : G} {iv : G → G} (h : isAb op e iv) (m n : Nat) (x : G) : gm op e (m * n) x = gm op e m (gm op e n x) := by
  induction m with
  | zero => rw [Nat.zero_mul]; rfl
  | succ m ih => rw [Nat.succ_mul, gm_add h, ih]; rfl
theorem gm_iv {G : Type} {op : G → G → G} {e : G} {iv : G → G} (h : isAb op e iv) (n : Nat) (x : G) : gm op e n (iv x) = iv (gm op e n x) := by
  refine ab_ivu h ?_
  rw [← gm_op h, h.2.2.2, gm_e h]
/-! the x of P + Q and of P - Q -/
def xA {F : Type} [mFld F] : Pt F → F
  | none => 1
  | some P => P.1
def xB {F : Type} [mFld F] : Pt F → F
  | none => 0
  | some _ => 1
theorem xAB {F : Type} [mFld F] (P : Pt F) : xA P ≠ 0 ∨ xB P ≠ 0 := by
  have := Lean.Grind.Field.zero_ne_one (α := F)
  cases P with
  | none => exact Or.inl (fun k => this k.symm)
  | some P => exact Or.inr (fun k => this k.symm)
def gD {R : Type} [mRng R] (x A B : R) : R := A - x * B
def gS {R : Type} [mRng R] (a b x A B : R) : R := 2 * ((A * x + a * B) * (A + x * B) + 2 * b * (B * B))
def gM {R : Type} [mRng R] (a b x A B : R) : R := (A * x - a * B) * (A * x - a * B) - 4 * b * B * (A + x * B)
theorem rl_S {F : Type} [mRng F] {a b x y ξ η i : F} (hP : y * y = x * x * x + a * x + b) (hQ : η * η = ξ * ξ * ξ + a * ξ + b) (hi : (ξ - x) * i = 1) :
    2 * ((x * ξ + a) * (x + ξ) + 2 * b) = (ξ - x) * (ξ - x) * (((η - y) * i) * ((η - y) * i) - x - ξ + (((-η - y) * i) * ((-η - y) * i) - x - ξ)) := by
  have : (ξ - x) * (ξ - x) * (((η - y) * i) * ((η - y) * i) - x - ξ + (((-η - y) * i) * ((-η - y) * i) - x - ξ)) = (η - y) * (η - y) * (((ξ - x) * i) * ((ξ - x) * i)) + (η + y) * (η + y) * (((ξ - x) * i) * ((ξ - x) * i)) - 2 * (x + ξ) * ((ξ - x) * (ξ - x)) := by grind
  rw [this, hi]; grind
theorem rl_M {F : Type} [mRng F] {a b x y ξ η i : F} (hP : y * y = x * x * x + a * x + b) (hQ : η * η = ξ * ξ * ξ + a * ξ + b) (hi : (ξ - x) * i = 1) :
    (x * ξ - a) * (x * ξ - a) - 4 * b * (x + ξ) = (ξ - x) * (ξ - x) * ((((η - y) * i) * ((η - y) * i) - x - ξ) * (((-η - y) * i) * ((-η - y) * i) - x - ξ)) := by
  have e1 : (ξ - x) * (ξ - x) * ((((η - y) * i) * ((η - y) * i) - x - ξ) * (((-η - y) * i) * ((-η - y) * i) - x - ξ)) = ((ξ - x) * i) * ((ξ - x) * i) * (((η * η - y * y) * i) * ((η * η - y * y) * i) - 2 * (x + ξ) * (η * η + y * y)) + (ξ - x) * (ξ - x) * ((x + ξ) * (x + ξ)) := by grind
  have e2 : η * η - y * y = (ξ - x) * (ξ * ξ + ξ * x + x * x + a) := by rw [hP, hQ]; grind
  have e3 : (ξ - x) * (ξ * ξ + ξ * x + x * x + a) * i = ξ * ξ + ξ * x + x * x + a := by
    rw [show (ξ - x) * (ξ * ξ + ξ * x + x * x + a) * i = ((ξ - x) * i) * (ξ * ξ + ξ * x + x * x + a) by grind, hi]; grind
  rw [e1, e2, e3, hi, hP, hQ]; grind
theorem rl_dM {F : Type} [mRng F] {a b x y i : F} (hP : y * y = x * x * x + a * x + b) (hi : 2 * y * i = 1) :
    (x * x - a) * (x * x - a) - 4 * b * (x + x) = 4 * (y * y) * (((3 * x * x + a) * i) * ((3 * x * x + a) * i) - x - x) := by
  have e1 : 4 * (y * y) * (((3 * x * x + a) * i) * ((3 * x * x + a) * i) - x - x) = (3 * x * x + a) * (3 * x * x + a) * ((2 * y * i) * (2 * y * i)) - 8 * x * (y * y) := by grind
  rw [e1, hi, hP]; grind
theorem xq {F : Type} [mFld F] {a b : F} (h2 : (2 : F) ≠ 0) (hns : 4 * a * a * a + 27 * b * b ≠ 0) {P : Pt F} {Q : F × F} (hP : onE a b P) (hQ : onE a b (some Q)) :
    ∃ k : F, k ≠ 0 ∧ gD Q.1 (xA P) (xB P) * gD Q.1 (xA P) (xB P) = k * (xB (ad a P (some Q)) * xB (ad a P (ng (some Q)))) ∧
      gS a b Q.1 (xA P) (xB P) = k * (xA (ad a P (some Q)) * xB (ad a P (ng (some Q))) + xA (ad a P (ng (some Q))) * xB (ad a P (some Q))) ∧
      gM a b Q.1 (xA P) (xB P) = k * (xA (ad a P (some Q)) * xA (ad a P (ng (some Q)))) := by
  have h01 := Lean.Grind.Field.zero_ne_one (α := F)
  have hQ' : Q.2 * Q.2 = Q.1 * Q.1 * Q.1 + a * Q.1 + b := hQ
  cases P with
  | none =>
    refine ⟨1, fun k => h01 k.symm, ?_, ?_, ?_⟩
    · show (1 - Q.1 * 0) * (1 - Q.1 * 0) = 1 * (1 * 1); grind
    · show 2 * ((1 * Q.1 + a * 0) * (1 + Q.1 * 0) + 2 * b * (0 * 0)) = 1 * (Q.1 * 1 + Q.1 * 1); grind
    · show (1 * Q.1 - a * 0) * (1 * Q.1 - a * 0) - 4 * b * 0 * (1 + Q.1 * 0) = 1 * (Q.1 * Q.1); grind
  | some P =>
    have hP' : P.2 * P.2 = P.1 * P.1 * P.1 + a * P.1 + b := hP
    show ∃ k : F, k ≠ 0 ∧ (P.1 - Q.1 * 1) * (P.1 - Q.1 * 1) = _ ∧ 2 * ((P.1 * Q.1 + a * 1) * (P.1 + Q.1 * 1) + 2 * b * (1 * 1)) = _ ∧ (P.1 * Q.1 - a * 1) * (P.1 * Q.1 - a * 1) - 4 * b * 1 * (P.1 + Q.1 * 1) = _
    have t1 : (P.1 - Q.1 * 1) * (P.1 - Q.1 * 1) = (Q.1 - P.1) * (Q.1 - P.1) := by grind
    have t2 : 2 * ((P.1 * Q.1 + a * 1) * (P.1 + Q.1 * 1) + 2 * b * (1 * 1)) = 2 * ((P.1 * Q.1 + a) * (P.1 + Q.1) + 2 * b) := by grind
    have t3 : (P.1 * Q.1 - a * 1) * (P.1 * Q.1 - a * 1) - 4 * b * 1 * (P.1 + Q.1 * 1) = (P.1 * Q.1 - a) * (P.1 * Q.1 - a) - 4 * b * (P.1 + Q.1) := by grind
    rw [t1, t2, t3]
    by_cases e : P.1 = Q.1
    · -- one of the two sums is the double, the other is nothing
      have dbl : ∃ k : F, k ≠ 0 ∧ 0 = k * (xB (ad a (some P) (some P)) * 0) ∧ 4 * (P.2 * P.2) = k * (xA (ad a (some P) (some P)) * 0 + 1 * xB (ad a (some P) (some P))) ∧ (P.1 * P.1 - a) * (P.1 * P.1 - a) - 4 * b * (P.1 + P.1) = k * (xA (ad a (some P) (some P)) * 1) := by
        by_cases y0 : P.2 = 0
        · rw [ad_inv rfl (by rw [y0]; grind)]
          refine ⟨(P.1 * P.1 - a) * (P.1 * P.1 - a) - 4 * b * (P.1 + P.1), fun k => ?_, ?_, ?_, ?_⟩
          · have g0 : 3 * P.1 * P.1 + a ≠ 0 := fun k => hns (by rw [y0] at hP'; grind)
            have : (3 * P.1 * P.1 + a) * (3 * P.1 * P.1 + a) = 0 := by rw [y0] at hP'; grind
            rcases Lean.Grind.Field.of_mul_eq_zero this with k | k <;> exact g0 k
          · show 0 = _ * (0 * 0); grind
          · show 4 * (P.2 * P.2) = _ * (1 * 0 + 1 * 0); rw [y0]; grind
          · show _ = _ * (1 * 1); grind
        · have y2 : 2 * P.2 ≠ 0 := fun k => by
            rcases Lean.Grind.Field.of_mul_eq_zero k with k | k
            · exact h2 k
            · exact y0 k
          have hi := Lean.Grind.Field.mul_inv_cancel y2
          have ng : ¬ (P.1 = P.1 ∧ P.2 + P.2 = 0) := fun k => y2 (by rw [← k.2]; grind)
          rw [ad_gen ng]
          have s1 : sl a P P = (3 * P.1 * P.1 + a) * (2 * P.2)⁻¹ := if_pos rfl
          refine ⟨4 * (P.2 * P.2), fun k => ?_, ?_, ?_, ?_⟩
          · have : (2 * P.2) * (2 * P.2) = 0 := by rw [← k]; grind
            rcases Lean.Grind.Field.of_mul_eq_zero this with k | k <;> exact y2 k
          · show 0 = _ * (1 * 0); grind
          · show _ = _ * (_ * 0 + 1 * 1); grind
          · show _ = 4 * (P.2 * P.2) * ((sl a P P * sl a P P - P.1 - P.1) * 1)
            rw [rl_dM hP' hi, s1]; grind
      obtain ⟨k, k0, d1, d2, d3⟩ := dbl
      have n1 : 2 * ((P.1 * Q.1 + a) * (P.1 + Q.1) + 2 * b) = 4 * (P.2 * P.2) := by rw [← e, hP']; grind
      rw [n1]
      have yy : (P.2 - Q.2) * (P.2 + Q.2) = 0 := by rw [← e] at hQ'; grind
      rcases Lean.Grind.Field.of_mul_eq_zero yy with z | z
      · have eq : Q = P := Prod.ext e.symm (by grind)
        subst eq
        rw [show ad a (some Q) (ng (some Q)) = none from ad_ng a _]
        refine ⟨k, k0, ?_, ?_, ?_⟩
        · show _ = k * (_ * 0); rw [← d1]; grind
        · show _ = k * (_ * 0 + 1 * _); rw [← d2]
        · show _ = k * (_ * 1); rw [← d3]
      · have eq : ng (some Q) = some P := by
          show some (Q.1, - Q.2) = some P
          rw [show (Q.1, - Q.2) = P from Prod.ext e.symm (by grind)]
        rw [eq, ad_inv e z]
        refine ⟨k, k0, ?_, ?_, ?_⟩
        · show _ = k * (0 * _); rw [e]; grind
        · show _ = k * (1 * _ + _ * 0); rw [d2]; grind
        · show _ = k * (1 * _); rw [← e, d3]; grind
    · have n1 : Q.1 - P.1 ≠ 0 := fun k => e (by grind)
      have hi := Lean.Grind.Field.mul_inv_cancel n1
      have g1 : ¬ (P.1 = Q.1 ∧ P.2 + Q.2 = 0) := fun k => e k.1
      have g2 : ¬ (P.1 = (Q.1, - Q.2).1 ∧ P.2 + (Q.1, - Q.2).2 = 0) := fun k => e k.1
      rw [ad_gen g1, show ng (some Q) = some (Q.1, - Q.2) from rfl, ad_gen g2]
      have s1 : sl a P Q = (Q.2 - P.2) * (Q.1 - P.1)⁻¹ := if_neg e
      have s2 : sl a P (Q.1, - Q.2) = (- Q.2 - P.2) * (Q.1 - P.1)⁻¹ := if_neg e
      refine ⟨(Q.1 - P.1) * (Q.1 - P.1), fun k => ?_, ?_, ?_, ?_⟩
      · rcases Lean.Grind.Field.of_mul_eq_zero k with k | k <;> exact n1 k
      · show _ = _ * (1 * 1); grind
      · show _ = _ * ((sl a P Q * sl a P Q - P.1 - Q.1) * 1 + (sl a P (Q.1, - Q.2) * sl a P (Q.1, - Q.2) - P.1 - Q.1) * 1)
        rw [s1, s2, rl_S hP' hQ' hi]; grind
      · show _ = _ * ((sl a P Q * sl a P Q - P.1 - Q.1) * (sl a P (Q.1, - Q.2) * sl a P (Q.1, - Q.2) - P.1 - Q.1))
        rw [s1, s2, rl_M hP' hQ' hi]
