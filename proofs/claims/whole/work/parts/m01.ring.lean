/-! rings and fields out of few words -/
abbrev mFld (F : Type) := Lean.Grind.Field F
abbrev mRng (R : Type) := Lean.Grind.CommRing R
def mk_nc {R : Type} (ad : R → R → R) (ze on : R) : Nat → R
  | 0 => ze
  | n + 1 => ad (mk_nc ad ze on n) on
def mk_pw {R : Type} (mu : R → R → R) (on : R) (a : R) : Nat → R
  | 0 => on
  | n + 1 => mu (mk_pw mu on a n) a
def mk_ic {R : Type} (ad : R → R → R) (ng : R → R) (ze on : R) : Int → R
  | .ofNat n => mk_nc ad ze on n
  | .negSucc n => ng (mk_nc ad ze on (n + 1))
theorem mk_cancel {R : Type} {ad : R → R → R} {ng : R → R} {ze : R} (h1 : ∀ a, ad a ze = a) (h2 : ∀ a b, ad a b = ad b a) (h3 : ∀ a b c, ad (ad a b) c = ad a (ad b c)) (h8 : ∀ a, ad (ng a) a = ze) {a b c : R} (h : ad a b = ad a c) : b = c := by
  have e : ad (ng a) (ad a b) = ad (ng a) (ad a c) := by rw [h]
  rw [← h3, ← h3, h8, h2 ze b, h2 ze c, h1, h1] at e
  exact e
theorem mk_zm {R : Type} {ad mu : R → R → R} {ng : R → R} {ze : R} (h1 : ∀ a, ad a ze = a) (h2 : ∀ a b, ad a b = ad b a) (h3 : ∀ a b c, ad (ad a b) c = ad a (ad b c)) (h6 : ∀ a b c, mu a (ad b c) = ad (mu a b) (mu a c)) (h7 : ∀ a b, mu a b = mu b a) (h8 : ∀ a, ad (ng a) a = ze) (a : R) : mu ze a = ze := by
  refine mk_cancel h1 h2 h3 h8 (a := mu ze a) ?_
  rw [h1, h7 ze a, ← h6, h1]
theorem mk_nn {R : Type} {ad : R → R → R} {ng : R → R} {ze : R} (h1 : ∀ a, ad a ze = a) (h2 : ∀ a b, ad a b = ad b a) (h3 : ∀ a b c, ad (ad a b) c = ad a (ad b c)) (h8 : ∀ a, ad (ng a) a = ze) (a : R) : ng (ng a) = a := by
  refine mk_cancel h1 h2 h3 h8 (a := ng a) ?_
  rw [h8, h2, h8]
theorem mk_nm {R : Type} {ad mu : R → R → R} {ng : R → R} {ze : R} (h1 : ∀ a, ad a ze = a) (h2 : ∀ a b, ad a b = ad b a) (h3 : ∀ a b c, ad (ad a b) c = ad a (ad b c)) (h6 : ∀ a b c, mu a (ad b c) = ad (mu a b) (mu a c)) (h7 : ∀ a b, mu a b = mu b a) (h8 : ∀ a, ad (ng a) a = ze) (a b : R) : mu (ng a) b = ng (mu a b) := by
  refine mk_cancel h1 h2 h3 h8 (a := mu a b) ?_
  rw [h2 _ (ng (mu a b)), h8, h7 a b, h7 (ng a) b, ← h6, h2 a, h8, h7]
  exact mk_zm h1 h2 h3 h6 h7 h8 b
theorem mk_n0 {R : Type} {ad : R → R → R} {ng : R → R} {ze : R} (h1 : ∀ a, ad a ze = a) (h8 : ∀ a, ad (ng a) a = ze) : ng ze = ze := by
  have := h8 ze; rwa [h1] at this
def mk_ring {R : Type} (ad mu : R → R → R) (ng : R → R) (ze on : R)
    (h1 : ∀ a, ad a ze = a) (h2 : ∀ a b, ad a b = ad b a) (h3 : ∀ a b c, ad (ad a b) c = ad a (ad b c))
    (h4 : ∀ a b c, mu (mu a b) c = mu a (mu b c)) (h5 : ∀ a, mu a on = a) (h6 : ∀ a b c, mu a (ad b c) = ad (mu a b) (mu a c)) (h7 : ∀ a b, mu a b = mu b a)
    (h8 : ∀ a, ad (ng a) a = ze) : Lean.Grind.CommRing R :=
  { add := ad, mul := mu, neg := ng, sub := fun a b => ad a (ng b)
    natCast := ⟨mk_nc ad ze on⟩
    ofNat := fun n => ⟨mk_nc ad ze on n⟩
    nsmul := ⟨fun n a => mu (mk_nc ad ze on n) a⟩
    npow := ⟨fun a n => mk_pw mu on a n⟩
    intCast := ⟨mk_ic ad ng ze on⟩
    zsmul := ⟨fun n a => mu (mk_ic ad ng ze on n) a⟩
    add_zero := h1
    add_comm := h2
    add_assoc := h3
    mul_assoc := h4
    mul_one := fun a => by show mu a (ad ze on) = a; rw [h2, h1, h5]
    one_mul := fun a => by show mu (ad ze on) a = a; rw [h2, h1, h7, h5]
    left_distrib := h6
    right_distrib := fun a b c => by show mu (ad a b) c = ad (mu a c) (mu b c); rw [h7, h6, h7 a c, h7 b c]
    zero_mul := fun a => mk_zm h1 h2 h3 h6 h7 h8 a
    mul_zero := fun a => by show mu a ze = ze; rw [h7]; exact mk_zm h1 h2 h3 h6 h7 h8 a
    pow_zero := fun a => by show on = ad ze on; rw [h2, h1]
    pow_succ := fun a n => rfl
    ofNat_succ := fun n => by show ad (mk_nc ad ze on n) on = ad (mk_nc ad ze on n) (ad ze on); rw [h2 ze on, h1]
    ofNat_eq_natCast := fun n => rfl
    nsmul_eq_natCast_mul := fun n a => rfl
    neg_add_cancel := h8
    sub_eq_add_neg := fun a b => rfl
    neg_zsmul := fun i a => by
      show mu (mk_ic ad ng ze on (-i)) a = ng (mu (mk_ic ad ng ze on i) a)
      have e : mk_ic ad ng ze on (-i) = ng (mk_ic ad ng ze on i) := by
        cases i with
        | ofNat n => cases n with
          | zero => show ze = ng ze; exact (mk_n0 h1 h8).symm
          | succ n => rfl
        | negSucc n => show mk_nc ad ze on (n + 1) = ng (ng (mk_nc ad ze on (n + 1))); exact (mk_nn h1 h2 h3 h8 _).symm
      rw [e]; exact mk_nm h1 h2 h3 h6 h7 h8 _ _
    zsmul_natCast_eq_nsmul := fun n a => rfl
    intCast_ofNat := fun n => rfl
    intCast_neg := fun i => by
      show mk_ic ad ng ze on (-i) = ng (mk_ic ad ng ze on i)
      cases i with
      | ofNat n => cases n with
        | zero => show ze = ng ze; exact (mk_n0 h1 h8).symm
        | succ n => rfl
      | negSucc n => show mk_nc ad ze on (n + 1) = ng (ng (mk_nc ad ze on (n + 1))); exact (mk_nn h1 h2 h3 h8 _).symm
    mul_comm := h7 }
theorem mk_ring_zero {R : Type} (ad mu : R → R → R) (ng : R → R) (ze on : R) (h1) (h2) (h3) (h4) (h5) (h6) (h7) (h8) :
    (letI := mk_ring ad mu ng ze on h1 h2 h3 h4 h5 h6 h7 h8; (0 : R)) = ze := rfl
theorem mk_ring_one {R : Type} (ad mu : R → R → R) (ng : R → R) (ze on : R) (h1) (h2) (h3) (h4) (h5) (h6) (h7) (h8) :
    (letI := mk_ring ad mu ng ze on h1 h2 h3 h4 h5 h6 h7 h8; (1 : R)) = on := by
  show ad ze on = on; rw [h2, h1]
def mk_zp {R : Type} [mRng R] (iv : R → R) (a : R) : Int → R
  | .ofNat n => a ^ n
  | .negSucc n => iv (a ^ (n + 1))
def mk_field {R : Type} (I : mRng R) (iv : R → R) (h0 : (0 : R) ≠ 1) (h1 : iv 0 = 0) (h2 : ∀ {a : R}, a ≠ 0 → a * iv a = 1) : Lean.Grind.Field R :=
  { I with
    inv := iv, div := fun a b => a * iv b
    zpow := ⟨fun a n => mk_zp iv a n⟩
    div_eq_mul_inv := fun a b => rfl
    zero_ne_one := h0
    inv_zero := h1
    mul_inv_cancel := h2
    zpow_zero := fun a => Lean.Grind.Semiring.pow_zero a
    zpow_succ := fun a n => Lean.Grind.Semiring.pow_succ a n
    zpow_neg := fun a n => by
      have hii : ∀ b : R, iv (iv b) = b := fun b => by
        by_cases e : b = 0
        · rw [e, h1, h1]
        · have k1 := h2 e
          have k2 : iv b ≠ 0 := fun k => h0 (by rw [k] at k1; rw [← k1]; grind)
          have k3 := h2 k2
          have k4 : b * (iv b * iv (iv b)) = b * 1 := by rw [k3]
          have k5 : b * iv b * iv (iv b) = 1 * iv (iv b) := by rw [k1]
          grind
      have hi1 : iv (1 : R) = 1 := by
        have k1 := h2 (a := (1 : R)) (fun k => h0 k.symm)
        grind
      show mk_zp iv a (-n) = iv (mk_zp iv a n)
      cases n with
      | ofNat n => cases n with
        | zero => show a ^ 0 = iv (a ^ 0); rw [Lean.Grind.Semiring.pow_zero, hi1]
        | succ n => rfl
      | negSucc n => show a ^ (n + 1) = iv (iv (a ^ (n + 1))); rw [hii] }
