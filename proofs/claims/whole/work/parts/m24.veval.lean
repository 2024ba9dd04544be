/-! Velu's sums at a point -/
noncomputable def vX {F K : Type} [mFld F] [mFld K] (κ : F → K) (e G V : Nat → F) (M : Nat) (ξ : K) : K := ξ + rs M (fun i => κ (G i) * (ξ - κ (e i))⁻¹ + κ (V i) * ((ξ - κ (e i))⁻¹ * (ξ - κ (e i))⁻¹))
noncomputable def vY {F K : Type} [mFld F] [mFld K] (κ : F → K) (e G V : Nat → F) (M : Nat) (ξ : K) : K := 1 - rs M (fun i => κ (G i) * ((ξ - κ (e i))⁻¹ * (ξ - κ (e i))⁻¹) + κ (V i + V i) * ((ξ - κ (e i))⁻¹ * (ξ - κ (e i))⁻¹ * (ξ - κ (e i))⁻¹))
theorem rl_e1 {K : Type} [mRng K] {p q d i g v : K} (e : p = q * d) (hi : d * i = 1) : g * (p * q) + v * (q * q) = p * p * (g * i + v * (i * i)) := by
  have : q = p * i := by rw [e]; grind
  rw [this]; grind
theorem rl_e2 {K : Type} [mRng K] {p q d i g v : K} (e : p = q * d) (hi : d * i = 1) : g * (p * (q * q)) + v * (q * q * q) = p * p * p * (g * (i * i) + v * (i * i * i)) := by
  have : q = p * i := by rw [e]; grind
  rw [this]; grind
theorem ev_vUZ {F R : Type} [mFld F] [mRng R] {co : R → Nat → F} {K : Type} [mFld K] (h : isPol co) {κ : F → K} (hκ : isHom κ) (e G V : Nat → F) (M : Nat) {ξ : K} (hx : ∀ i, i < M → ξ ≠ κ (e i)) :
    ev h κ ξ (vU h e G V M) = ev h κ ξ (pr h e M) * ev h κ ξ (pr h e M) * vX κ e G V M ξ ∧ ev h κ ξ (vZ h e G V M) = ev h κ ξ (pr h e M) * ev h κ ξ (pr h e M) * ev h κ ξ (pr h e M) * vY κ e G V M ξ := by
  have hh := ev_hom h hκ ξ
  have st : ∀ i, i < M → ev h κ ξ (pr h e M) = ev h κ ξ (pri h e i M) * (ξ - κ (e i)) ∧ (ξ - κ (e i)) * (ξ - κ (e i))⁻¹ = 1 := fun i hi => by
    refine ⟨?_, Lean.Grind.Field.mul_inv_cancel (fun z => hx i hi (by grind))⟩
    have := congrArg (ev h κ ξ) (pri_pr h e i hi)
    rw [hm_mul hh, hm_sub hh, ev_X h hκ, ev_C h hκ] at this; exact this
  refine ⟨?_, ?_⟩
  · unfold vU vX
    rw [hm_add hh, hm_mul hh, hm_mul hh, ev_X h hκ, hm_rs hh]
    have : rs M (fun i => ev h κ ξ (pC h (G i) * (pr h e M * pri h e i M) + pC h (V i) * (pri h e i M * pri h e i M))) = ev h κ ξ (pr h e M) * ev h κ ξ (pr h e M) * rs M (fun i => κ (G i) * (ξ - κ (e i))⁻¹ + κ (V i) * ((ξ - κ (e i))⁻¹ * (ξ - κ (e i))⁻¹)) := by
      rw [← rs_mul]
      refine rs_ext (fun i hi => ?_)
      simp only [hm_add hh, hm_mul hh, ev_C h hκ]
      exact rl_e1 (st i hi).1 (st i hi).2
    rw [this]; grind
  · unfold vZ vY
    rw [hm_sub hh, hm_mul hh, hm_mul hh, hm_rs hh]
    have : rs M (fun i => ev h κ ξ (pC h (G i) * (pr h e M * (pri h e i M * pri h e i M)) + pC h (V i + V i) * (pri h e i M * pri h e i M * pri h e i M))) = ev h κ ξ (pr h e M) * ev h κ ξ (pr h e M) * ev h κ ξ (pr h e M) * rs M (fun i => κ (G i) * ((ξ - κ (e i))⁻¹ * (ξ - κ (e i))⁻¹) + κ (V i + V i) * ((ξ - κ (e i))⁻¹ * (ξ - κ (e i))⁻¹ * (ξ - κ (e i))⁻¹)) := by
      rw [← rs_mul]
      refine rs_ext (fun i hi => ?_)
      simp only [hm_add hh, hm_mul hh, ev_C h hκ]
      exact rl_e2 (st i hi).1 (st i hi).2
    rw [this]; grind
theorem rl_e3 {K : Type} [mRng K] {f p X Y η a b : K} (hf : η * η = f) : f * ((p * p * p * Y) * (p * p * p * Y)) - (p * p * X) * (p * p * X) * (p * p * X) - a * (p * p * X) * (p * p) * (p * p) - b * (p * p) * (p * p) * (p * p) = p ^ 6 * ((η * Y) * (η * Y) - X * X * X - a * X - b) := by rw [← hf]; grind
theorem ev_vC {F R : Type} [mFld F] [mRng R] {co : R → Nat → F} {K : Type} [mFld K] (h : isPol co) {κ : F → K} (hκ : isHom κ) (a b a' b' : F) (e G V : Nat → F) (M : Nat) {Q : K × K} (hQ : onE (κ a) (κ b) (some Q)) (hx : ∀ i, i < M → Q.1 ≠ κ (e i)) :
    ev h κ Q.1 (vC h a b a' b' e G V M) = ev h κ Q.1 (pr h e M) ^ 6 * ((Q.2 * vY κ e G V M Q.1) * (Q.2 * vY κ e G V M Q.1) - vX κ e G V M Q.1 * vX κ e G V M Q.1 * vX κ e G V M Q.1 - κ a' * vX κ e G V M Q.1 - κ b') := by
  have hh := ev_hom h hκ Q.1
  obtain ⟨h1, h2⟩ := ev_vUZ h hκ e G V M hx
  unfold vC
  simp only [hm_sub hh, hm_mul hh, h1, h2, ev_C h hκ, ev_f h hκ]
  exact rl_e3 hQ
/-- the two sums of a pair -/
theorem rl_px {K : Type} [mRng K] {a b ξ η x y i : K} (hQ : η * η = ξ * ξ * ξ + a * ξ + b) (hS : y * y = x * x * x + a * x + b) (hi : (x - ξ) * i = 1) :
    ((y - η) * i) * ((y - η) * i) - ξ - x + (((- y - η) * i) * ((- y - η) * i) - ξ - x) = x + x + ((3 * x * x + a) + (3 * x * x + a)) * (- i) + 4 * (y * y) * (i * i) := by
  have e1 : ((y - η) * i) * ((y - η) * i) - ξ - x + (((- y - η) * i) * ((- y - η) * i) - ξ - x) = 2 * (y * y + η * η) * (i * i) - 2 * (ξ + x) := by grind
  have e2 : y * y + η * η = 2 * (y * y) + (η * η - y * y) := by grind
  have e3 : η * η - y * y = - ((x - ξ) * (ξ * ξ + ξ * x + x * x + a)) := by rw [hQ, hS]; grind
  have e4 : (x - ξ) * (ξ * ξ + ξ * x + x * x + a) * (i * i) = (ξ * ξ + ξ * x + x * x + a) * i := by
    rw [show (x - ξ) * (ξ * ξ + ξ * x + x * x + a) * (i * i) = ((x - ξ) * i) * ((ξ * ξ + ξ * x + x * x + a) * i) by grind, hi]; grind
  have e5 : (ξ * ξ + ξ * x + x * x + a) * i = (3 * x * x + a) * i - (ξ + 2 * x) * ((x - ξ) * i) := by grind
  rw [e1, e2, e3, show 2 * (2 * (y * y) + - ((x - ξ) * (ξ * ξ + ξ * x + x * x + a))) * (i * i) = 4 * (y * y) * (i * i) - 2 * ((x - ξ) * (ξ * ξ + ξ * x + x * x + a) * (i * i)) by grind, e4, e5, hi]; grind
theorem rl_px1 {K : Type} [mRng K] {a b ξ η x i : K} (hQ : η * η = ξ * ξ * ξ + a * ξ + b) (hS : 0 = x * x * x + a * x + b) (hi : (x - ξ) * i = 1) :
    ((0 - η) * i) * ((0 - η) * i) - ξ - x = x + (3 * x * x + a) * (- i) := by
  have e1 : ((0 - η) * i) * ((0 - η) * i) - ξ - x = (η * η) * (i * i) - (ξ + x) := by grind
  have e3 : η * η = - ((x - ξ) * (ξ * ξ + ξ * x + x * x + a)) := by rw [hQ]; grind
  have e4 : (x - ξ) * (ξ * ξ + ξ * x + x * x + a) * (i * i) = (ξ * ξ + ξ * x + x * x + a) * i := by
    rw [show (x - ξ) * (ξ * ξ + ξ * x + x * x + a) * (i * i) = ((x - ξ) * i) * ((ξ * ξ + ξ * x + x * x + a) * i) by grind, hi]; grind
  have e5 : (ξ * ξ + ξ * x + x * x + a) * i = (3 * x * x + a) * i - (ξ + 2 * x) * ((x - ξ) * i) := by grind
  rw [e1, e3, show ∀ z w : K, - z * w = - (z * w) by intro z w; grind, e4, e5, hi]; grind
theorem rl_py {K : Type} [mRng K] {a b ξ η x y i : K} (hQ : η * η = ξ * ξ * ξ + a * ξ + b) (hS : y * y = x * x * x + a * x + b) (hi : (x - ξ) * i = 1) :
    ((y - η) * i) * (ξ - (((y - η) * i) * ((y - η) * i) - ξ - x)) - η + (((- y - η) * i) * (ξ - (((- y - η) * i) * ((- y - η) * i) - ξ - x)) - η) = - (η * (((3 * x * x + a) + (3 * x * x + a)) * (i * i) - 8 * (y * y) * (i * i * i))) := by
  have e0 : ((y - η) * i) * (ξ - (((y - η) * i) * ((y - η) * i) - ξ - x)) - η + (((- y - η) * i) * (ξ - (((- y - η) * i) * ((- y - η) * i) - ξ - x)) - η) = 2 * η * ((η * η + 3 * (y * y)) * (i * i * i) - (2 * ξ + x) * i - 1) := by grind
  have e3 : η * η = y * y - (x - ξ) * (ξ * ξ + ξ * x + x * x + a) := by rw [hQ, hS]; grind
  have e4 : (y * y - (x - ξ) * (ξ * ξ + ξ * x + x * x + a) + 3 * (y * y)) * (i * i * i) = 4 * (y * y) * (i * i * i) - (ξ * ξ + ξ * x + x * x + a) * (i * i) := by
    rw [show (y * y - (x - ξ) * (ξ * ξ + ξ * x + x * x + a) + 3 * (y * y)) * (i * i * i) = 4 * (y * y) * (i * i * i) - ((x - ξ) * i) * ((ξ * ξ + ξ * x + x * x + a) * (i * i)) by grind, hi]; grind
  have e5 : (ξ * ξ + ξ * x + x * x + a) * (i * i) = (3 * x * x + a) * (i * i) - (ξ + 2 * x) * (((x - ξ) * i) * i) := by grind
  have e6 : (2 * ξ + x) * i = (ξ + 2 * x) * i - (x - ξ) * i := by grind
  rw [e0, e3, e4, e5, e6, hi]; grind
theorem rl_py1 {K : Type} [mRng K] {a b ξ η x i : K} (hQ : η * η = ξ * ξ * ξ + a * ξ + b) (hS : 0 = x * x * x + a * x + b) (hi : (x - ξ) * i = 1) :
    ((0 - η) * i) * (ξ - (((0 - η) * i) * ((0 - η) * i) - ξ - x)) - η = - (η * ((3 * x * x + a) * (i * i))) := by
  have e0 : ((0 - η) * i) * (ξ - (((0 - η) * i) * ((0 - η) * i) - ξ - x)) - η = η * ((η * η) * (i * i * i) - (2 * ξ + x) * i - 1) := by grind
  have e3 : η * η = - ((x - ξ) * (ξ * ξ + ξ * x + x * x + a)) := by rw [hQ]; grind
  have e4 : - ((x - ξ) * (ξ * ξ + ξ * x + x * x + a)) * (i * i * i) = - ((ξ * ξ + ξ * x + x * x + a) * (i * i)) := by
    rw [show - ((x - ξ) * (ξ * ξ + ξ * x + x * x + a)) * (i * i * i) = - (((x - ξ) * i) * ((ξ * ξ + ξ * x + x * x + a) * (i * i))) by grind, hi]; grind
  have e5 : (ξ * ξ + ξ * x + x * x + a) * (i * i) = (3 * x * x + a) * (i * i) - (ξ + 2 * x) * (((x - ξ) * i) * i) := by grind
  have e6 : (2 * ξ + x) * i = (ξ + 2 * x) * i - (x - ξ) * i := by grind
  rw [e0, show (η * η) * (i * i * i) = (- ((x - ξ) * (ξ * ξ + ξ * x + x * x + a))) * (i * i * i) by rw [e3], e4, e5, e6, hi]; grind
/-! sums folded -/
theorem rs_fold0 {R : Type} [mRng R] (f : Nat → R) : ∀ k : Nat, rs (2 * k) f = rs k (fun i => f i + f (2 * k - 1 - i))
  | 0 => rfl
  | k + 1 => by
    have ih := rs_fold0 (fun i => f (i + 1)) k
    rw [show 2 * (k + 1) = 2 * k + 1 + 1 by omega]
    show rs (2 * k + 1) f + f (2 * k + 1) = _
    rw [rs_shift, ih, rs_shift (fun i => f i + f (2 * k + 1 + 1 - 1 - i)) k]
    have : rs k (fun i => f (i + 1) + f (2 * k - 1 - i + 1)) = rs k (fun i => f (i + 1) + f (2 * k + 1 + 1 - 1 - (i + 1))) := rs_ext (fun i hi => by rw [show 2 * k - 1 - i + 1 = 2 * k + 1 + 1 - 1 - (i + 1) by omega])
    rw [this, show 2 * k + 1 + 1 - 1 - 0 = 2 * k + 1 by omega]; grind
theorem rs_fold1 {R : Type} [mRng R] (f : Nat → R) (k : Nat) : rs (2 * k + 1) f = rs k (fun i => f i + f (2 * k - i)) + f k := by
  cases k with
  | zero => rfl
  | succ k =>
    have e1 : rs (2 * (k + 1) + 1) f = rs (2 * (k + 1)) (fun i => f (if i < k + 1 then i else i + 1)) + f (k + 1) := by
      have key : ∀ m, k + 1 ≤ m → rs (m + 1) f = rs m (fun i => f (if i < k + 1 then i else i + 1)) + f (k + 1) := by
        intro m hm
        induction m with
        | zero => omega
        | succ m ih =>
          by_cases q : m = k
          · subst q
            show rs (m + 1) f + f (m + 1) = _
            congr 1
            exact rs_ext (fun i hi => by simp only [if_pos hi])
          · show rs (m + 1) f + f (m + 1) = rs m (fun i => f (if i < k + 1 then i else i + 1)) + f (if m < k + 1 then m else m + 1) + f (k + 1)
            rw [ih (by omega), if_neg (by omega)]; grind
      exact key _ (by omega)
    rw [e1, rs_fold0]
    congr 1
    refine rs_ext (fun i hi => ?_)
    rw [if_pos hi, if_neg (by omega), show 2 * (k + 1) - 1 - i + 1 = 2 * (k + 1) - i by omega]
