/-! points under a homomorphism of fields -/
def pm {F L : Type} (φ : F → L) : Pt F → Pt L
  | none => none
  | some P => some (φ P.1, φ P.2)
theorem hm_inv {F L : Type} [mFld F] [mFld L] {φ : F → L} (h : isHom φ) (x : F) : φ x⁻¹ = (φ x)⁻¹ := by
  have h1 : (1 : L) ≠ 0 := fun z => Lean.Grind.Field.zero_ne_one z.symm
  by_cases z : x = 0
  · rw [z, Lean.Grind.Field.inv_zero, hm_zero h, Lean.Grind.Field.inv_zero]
  · have e := Lean.Grind.Field.inv_mul_cancel z
    have e2 := hm_mul h x⁻¹ x
    rw [e, hm_one h] at e2
    exact Lean.Grind.Field.eq_inv_of_mul_eq_one e2.symm
theorem hm_num {F L : Type} [mFld F] [mFld L] {φ : F → L} (hφ : isHom φ) (n : Nat) : φ (OfNat.ofNat (α := F) n) = OfNat.ofNat (α := L) n := by
  induction n with
  | zero => exact hm_zero hφ
  | succ n ih => rw [Lean.Grind.Semiring.ofNat_succ (α := F) n, Lean.Grind.Semiring.ofNat_succ (α := L) n, hm_add hφ, ih, hm_one hφ]
theorem pm_on {F L : Type} [mFld F] [mFld L] {φ : F → L} (h : isHom φ) {a b : F} {P : Pt F} (hP : onE a b P) : onE (φ a) (φ b) (pm φ P) := by
  cases P with
  | none => trivial
  | some P =>
    show φ P.2 * φ P.2 = φ P.1 * φ P.1 * φ P.1 + φ a * φ P.1 + φ b
    rw [← hm_mul h, show P.2 * P.2 = P.1 * P.1 * P.1 + a * P.1 + b from hP, hm_add h, hm_add h, hm_mul h, hm_mul h, hm_mul h]
theorem pm_ad {F L : Type} [mFld F] [mFld L] {φ : F → L} (h : isHom φ) (a : F) (P Q : Pt F) : pm φ (ad a P Q) = ad (φ a) (pm φ P) (pm φ Q) := by
  have h1 : (1 : L) ≠ 0 := fun z => Lean.Grind.Field.zero_ne_one z.symm
  cases P with
  | none => rfl
  | some P => cases Q with
    | none => rfl
    | some Q =>
      by_cases k : P.1 = Q.1 ∧ P.2 + Q.2 = 0
      · rw [ad_inv k.1 k.2]
        show none = ad (φ a) (some (φ P.1, φ P.2)) (some (φ Q.1, φ Q.2))
        rw [ad_inv (show φ P.1 = φ Q.1 by rw [k.1]) (show φ P.2 + φ Q.2 = 0 by rw [← hm_add h, k.2, hm_zero h])]
      · have k' : ¬ ((φ P.1, φ P.2).1 = (φ Q.1, φ Q.2).1 ∧ (φ P.1, φ P.2).2 + (φ Q.1, φ Q.2).2 = 0) := fun z => k ⟨hm_inj h h1 z.1, hm_inj h h1 (by rw [hm_add h, hm_zero h]; exact z.2)⟩
        rw [ad_gen k]
        show some (φ (p3 (sl a P Q) P Q).1, φ (p3 (sl a P Q) P Q).2) = ad (φ a) (some (φ P.1, φ P.2)) (some (φ Q.1, φ Q.2))
        rw [ad_gen k']
        have e : sl (φ a) (φ P.1, φ P.2) (φ Q.1, φ Q.2) = φ (sl a P Q) := by
          unfold sl
          by_cases z : P.1 = Q.1
          · rw [if_pos z, if_pos (show φ P.1 = φ Q.1 by rw [z])]
            show (3 * φ P.1 * φ P.1 + φ a) * (2 * φ P.2)⁻¹ = _
            rw [hm_mul h, hm_inv h, hm_add h, hm_mul h, hm_mul h, hm_mul h, hm_num h 3, hm_num h 2]
          · rw [if_neg z, if_neg (show ¬ φ P.1 = φ Q.1 from fun w => z (hm_inj h h1 w))]
            show (φ Q.2 - φ P.2) * (φ Q.1 - φ P.1)⁻¹ = _
            rw [hm_mul h, hm_inv h, hm_sub h, hm_sub h]
        rw [e]
        unfold p3
        simp only [hm_sub h, hm_mul h]
theorem pm_ng {F L : Type} [mFld F] [mFld L] {φ : F → L} (h : isHom φ) (P : Pt F) : pm φ (ng P) = ng (pm φ P) := by
  cases P with
  | none => rfl
  | some P => show some (φ P.1, φ (- P.2)) = some (φ P.1, - φ P.2); rw [hm_neg h]
theorem pm_inj {F L : Type} [mFld F] [mFld L] {φ : F → L} (h : isHom φ) {P Q : Pt F} (e : pm φ P = pm φ Q) : P = Q := by
  have h1 : (1 : L) ≠ 0 := fun z => Lean.Grind.Field.zero_ne_one z.symm
  cases P with
  | none => cases Q with
    | none => rfl
    | some Q => exact absurd (show (none : Pt L) = some (φ Q.1, φ Q.2) from e) (by simp)
  | some P => cases Q with
    | none => exact absurd (show some (φ P.1, φ P.2) = (none : Pt L) from e) (by simp)
    | some Q =>
      have e1 := Option.some.inj e
      have e2 := congrArg Prod.fst e1
      have e3 := congrArg Prod.snd e1
      rw [show P = Q from Prod.ext (hm_inj h h1 e2) (hm_inj h h1 e3)]
theorem pm_fix {L : Type} {φ : L → L} {P : Pt L} (k : ∀ Q, P = some Q → φ Q.1 = Q.1 ∧ φ Q.2 = Q.2) : pm φ P = P := by
  cases P with
  | none => rfl
  | some P => show some (φ P.1, φ P.2) = some P; rw [(k P rfl).1, (k P rfl).2]
theorem wn_gm {L : Type} [mFld L] {a b : L} (h2 : (2 : L) ≠ 0) (hns : 4 * a * a * a + 27 * b * b ≠ 0) (W Q : EP a b) (n : Nat) : wn a W.1 Q.1 n = (eo h2 hns W (gm (eo h2 hns) ez n Q)).1 := by
  have ab := ep_ab h2 hns
  induction n with
  | zero => show W.1 = (eo h2 hns W ez).1; rw [ab.2.2.1]
  | succ n ih =>
    show ad a (wn a W.1 Q.1 n) Q.1 = (eo h2 hns W (eo h2 hns (gm (eo h2 hns) ez n Q) Q)).1
    rw [← ab.1, ih]; rfl
/-- with Q moved by S, where n S and W S are nothing, the chain's points are the same -/
theorem gw_move {G : Type} {op : G → G → G} {e : G} {iv : G → G} (h : isAb op e iv) {W W' Q S : G} {n : Nat} (hW : W' = W) (hS : gm op e n S = e) : op W' (gm op e n (op Q S)) = op W (gm op e n Q) := by
  rw [hW, gm_op h, hS, h.2.2.1]
/-! where two points have one x -/
theorem x_same {F : Type} [mFld F] {a b : F} {P Q : F × F} (hP : onE a b (some P)) (hQ : onE a b (some Q)) (e : P.1 = Q.1) : some P = some Q ∨ some P = ng (some Q) := by
  have hP' : P.2 * P.2 = P.1 * P.1 * P.1 + a * P.1 + b := hP
  have hQ' : Q.2 * Q.2 = Q.1 * Q.1 * Q.1 + a * Q.1 + b := hQ
  have e3 : (P.2 - Q.2) * (P.2 + Q.2) = 0 := by rw [← e] at hQ'; grind
  rcases Lean.Grind.Field.of_mul_eq_zero e3 with z | z
  · left; rw [show P = Q from Prod.ext e (by grind)]
  · right; show some P = some (Q.1, - Q.2); rw [show P = (Q.1, - Q.2) from Prod.ext e (by grind)]
/-! a combination of a pair, made of one size -/
noncomputable def hmg {F R : Type} [mRng F] [mRng R] {co : R → Nat → F} (h : isPol co) (A B : R) (e : Nat) (G : R) : R := rs (e + 1) (fun i => pC h (co G i) * (A ^ i * B ^ (e - i)))
theorem rp_add {R : Type} [mRng R] (x : R) (m n : Nat) : x ^ (m + n) = x ^ m * x ^ n := Lean.Grind.Semiring.pow_add x m n
theorem hmg_ev {F R : Type} [mFld F] [mRng R] {co : R → Nat → F} {L : Type} [mRng L] (h : isPol co) {φ : F → L} (hφ : isHom φ) {A B G : R} {e : Nat} (hG : sz h G ≤ e + 1) {ξ s : L} (k : ev h φ ξ A = s * ev h φ ξ B) : ev h φ ξ (hmg h A B e G) = ev h φ s G * ev h φ ξ B ^ e := by
  have hh := ev_hom h hφ ξ
  unfold hmg
  rw [hm_rs hh, ev_rs h hφ s (d := e + 1) (fun n hn => sz_end h G (by omega)), ← rs_mulr]
  refine rs_ext (fun i hi => ?_)
  rw [hm_mul hh, hm_mul hh, hm_pow hh, hm_pow hh, ev_C h hφ, k, rp_mul, show e = i + (e - i) by omega, rp_add]
  rw [show i + (e - i) - i = e - i by omega]
  generalize s ^ i = w
  generalize ev h φ ξ B ^ i = z
  grind
theorem sz_pw {F R : Type} [mFld F] [mRng R] {co : R → Nat → F} (h : isPol co) {p : R} {d : Nat} (hp : sz h p = d + 1) : ∀ n : Nat, sz h (p ^ n) = d * n + 1
  | 0 => by rw [Lean.Grind.Semiring.pow_zero, ← pC_one h, sz_C h (fun z => Lean.Grind.Field.zero_ne_one z.symm)]; rfl
  | n + 1 => by rw [Lean.Grind.Semiring.pow_succ, sz_mul h (sz_pw h hp n) hp, Nat.mul_succ]
theorem sz_pwle {F R : Type} [mFld F] [mRng R] {co : R → Nat → F} (h : isPol co) {p : R} {d : Nat} (hp : sz h p ≤ d + 1) : ∀ n : Nat, sz h (p ^ n) ≤ d * n + 1
  | 0 => by rw [Lean.Grind.Semiring.pow_zero, ← pC_one h, sz_C h (fun z => Lean.Grind.Field.zero_ne_one z.symm)]; omega
  | n + 1 => by rw [Lean.Grind.Semiring.pow_succ, Nat.mul_succ]; exact (sz_mle h (sz_pwle h hp n) hp).1
theorem sz_rs {F R : Type} [mFld F] [mRng R] {co : R → Nat → F} (h : isPol co) {f : Nat → R} {d : Nat} : ∀ {n : Nat}, (∀ i, i < n → sz h (f i) ≤ d) → sz h (rs n f) ≤ d
  | 0, _ => by show sz h (0 : R) ≤ d; rw [sz_zero]; omega
  | n + 1, k => sz_add h (sz_rs h (fun i hi => k i (by omega))) (k n (by omega))
theorem hmg_sz {F R : Type} [mFld F] [mRng R] {co : R → Nat → F} (h : isPol co) {A B : R} {m : Nat} (hA : sz h A = m + 1) (hB : sz h B ≤ m) (m0 : 0 < m) (e : Nat) (G : R) :
    sz h (rs e (fun i => pC h (co G i) * (A ^ i * B ^ (e - i)))) ≤ m * e ∧ (co G e ≠ 0 → sz h (hmg h A B e G) = m * e + 1) ∧ (co G e = 0 → sz h (hmg h A B e G) ≤ m * e) := by
  have t : sz h (rs e (fun i => pC h (co G i) * (A ^ i * B ^ (e - i)))) ≤ m * e := by
    refine sz_rs h (fun i hi => ?_)
    obtain ⟨m', rfl⟩ : ∃ m', m = m' + 1 := ⟨m - 1, by omega⟩
    have s1 := sz_pw h hA i
    have s2 := sz_pwle h (d := m') hB (e - i)
    have s3 := (sz_mle h (Nat.le_of_eq s1) s2).1
    have s4 := (sz_mle h (sz_Cle h (co G i)) s3).1
    obtain ⟨j, rfl⟩ : ∃ j, e = i + (j + 1) := ⟨e - i - 1, by omega⟩
    rw [show i + (j + 1) - i = j + 1 by omega] at *
    have q : (m' + 1) * (i + (j + 1)) = (m' + 1) * i + m' * (j + 1) + (j + 1) := by grind
    rw [q]; omega
  have top : sz h (A ^ e * B ^ (e - e)) = m * e + 1 := by
    rw [Nat.sub_self, Lean.Grind.Semiring.pow_zero, show A ^ e * 1 = A ^ e by grind, sz_pw h hA]
  refine ⟨t, fun k => ?_, fun k => ?_⟩
  · unfold hmg
    show sz h (rs e (fun i => pC h (co G i) * (A ^ i * B ^ (e - i))) + pC h (co G e) * (A ^ e * B ^ (e - e))) = _
    have s1 := sz_mul h (sz_C h k) top
    rw [show ∀ x y : R, x + y = y + x by intro x y; grind, sz_addl h (by rw [s1]; omega), s1]; omega
  · unfold hmg
    show sz h (rs e (fun i => pC h (co G i) * (A ^ i * B ^ (e - i))) + pC h (co G e) * (A ^ e * B ^ (e - e))) ≤ _
    rw [k, pC_zero, show ∀ x : R, 0 * x = 0 by intro x; grind, show ∀ x : R, x + 0 = x by intro x; grind]; exact t
