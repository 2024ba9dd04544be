/-! prime fields; the p-th power -/
def isFp (F : Type) [mFld F] (p : Nat) (els : List F) : Prop := els.Nodup ∧ (∀ x : F, x ∈ els) ∧ els.length = p ∧ ∀ x : F, x ^ p = x
theorem rp_mul {R : Type} [mRng R] (x y : R) : ∀ n : Nat, (x * y) ^ n = x ^ n * y ^ n
  | 0 => by rw [Lean.Grind.Semiring.pow_zero, Lean.Grind.Semiring.pow_zero, Lean.Grind.Semiring.pow_zero]; grind
  | n + 1 => by rw [Lean.Grind.Semiring.pow_succ, Lean.Grind.Semiring.pow_succ, Lean.Grind.Semiring.pow_succ, rp_mul x y n]; grind
theorem rp_0 {R : Type} [mRng R] {n : Nat} (h : 0 < n) : (0 : R) ^ n = 0 := by
  cases n with
  | zero => omega
  | succ n => rw [Lean.Grind.Semiring.pow_succ]; grind
theorem XC_pow {F R : Type} [mFld F] [mRng R] {co : R → Nat → F} (h : isPol co) (c : F) : ∀ n : Nat, sz h ((pX h - pC h c) ^ n) = n + 1 ∧ co ((pX h - pC h c) ^ n) n = 1
  | 0 => by rw [Lean.Grind.Semiring.pow_zero]; exact ⟨by rw [← pC_one h, sz_C h (fun z => Lean.Grind.Field.zero_ne_one z.symm)], by rw [po_one h]; rfl⟩
  | n + 1 => by
    obtain ⟨h1, h2⟩ := XC_pow h c n
    have h3 := sz_XC h c
    rw [Lean.Grind.Semiring.pow_succ]
    refine ⟨sz_mul h h1 h3, ?_⟩
    rw [(sz_mle h (Nat.le_of_eq h1) (Nat.le_of_eq h3)).2, h2, po_sub h, co_X h, co_C h, if_pos rfl, if_neg (by omega)]; grind
theorem X_pow {F R : Type} [mFld F] [mRng R] {co : R → Nat → F} (h : isPol co) (n : Nat) : sz h (pX h ^ n) = n + 1 ∧ co (pX h ^ n) n = 1 := by
  have := XC_pow h 0 n
  rwa [pC_zero, show pX h - 0 = pX h by grind] at this
theorem fp_pos {F : Type} [mFld F] {p : Nat} {els : List F} (k : isFp F p els) : 2 ≤ p := by
  obtain ⟨h1, h2, h3, h4⟩ := k
  have a0 := h2 0
  have a1 := h2 1
  have ne : (0 : F) ≠ 1 := Lean.Grind.Field.zero_ne_one
  rcases els with _ | ⟨x, _ | ⟨y, t⟩⟩
  · exact absurd a0 (List.not_mem_nil)
  · rw [List.mem_singleton] at a0 a1; exact absurd (a0.trans a1.symm) ne
  · rw [← h3]; show 2 ≤ t.length + 1 + 1; omega
theorem frob1 {F R : Type} [mFld F] [mRng R] {co : R → Nat → F} (h : isPol co) {p : Nat} {els : List F} (k : isFp F p els) : (pX h + 1) ^ p = pX h ^ p + 1 := by
  have p2 := fp_pos k
  obtain ⟨h1, h2, h3, h4⟩ := k
  have e1 : pX h + 1 = pX h - pC h (-1) := by rw [pC_neg, pC_one]; grind
  obtain ⟨a1, a2⟩ := XC_pow h (-1 : F) p
  obtain ⟨b1, b2⟩ := X_pow h p
  have o1 : sz h (1 : R) = 1 := by rw [← pC_one h, sz_C h (fun z => Lean.Grind.Field.zero_ne_one z.symm)]
  refine po_agree h (l := els) h1 ?_ ?_ ?_ (fun c _ => ?_)
  · rw [e1, a1, h3]; omega
  · rw [sz_addl h (by rw [o1, b1]; omega), b1, h3]; omega
  · rw [e1, h3, a2, po_add h, b2, sz_end h 1 (by omega)]; grind
  · have hh := ev_hom h (hm_id (F := F)) c
    rw [hm_pow hh, hm_add hh, hm_add hh, hm_pow hh, ev_X h hm_id, hm_one hh, h4, h4]
/-- over a field, or a ring of polynomials, that holds F: the p-th power keeps sums -/
theorem frob_1 {F R : Type} [mFld F] [mRng R] {co : R → Nat → F} {S : Type} [mRng S] (h : isPol co) {p : Nat} {els : List F} (k : isFp F p els) {φ : F → S} (hφ : isHom φ) (w : S) : (w + 1) ^ p = w ^ p + 1 := by
  have hh := ev_hom h hφ w
  have := congrArg (ev h φ w) (frob1 h k)
  rwa [hm_pow hh, hm_add hh, hm_add hh, hm_pow hh, ev_X h hφ, hm_one hh] at this
theorem frob_C {F R : Type} [mFld F] [mRng R] {co : R → Nat → F} (h : isPol co) {p : Nat} {els : List F} (k : isFp F p els) (c : F) (w : R) : (pC h c + w) ^ p = pC h c + w ^ p := by
  by_cases z : c = 0
  · rw [z, pC_zero, show (0 : R) + w = w by grind]; grind
  · have e1 : pC h c + w = pC h c * (pC h c⁻¹ * w + 1) := by
      have : pC h c * pC h c⁻¹ = 1 := by rw [← pC_mul, Lean.Grind.Field.mul_inv_cancel z, pC_one]
      grind
    have e2 : pC h c * pC h c⁻¹ = 1 := by rw [← pC_mul, Lean.Grind.Field.mul_inv_cancel z, pC_one]
    have hp := fun x : F => k.2.2.2 x
    rw [e1, rp_mul, frob_1 h k (pC_hom h), rp_mul, ← hm_pow (pC_hom h), ← hm_pow (pC_hom h), hp, hp]; grind
theorem frob_f {F R : Type} [mFld F] [mRng R] {co : R → Nat → F} (h : isPol co) {p : Nat} {els : List F} (k : isFp F p els) (f : R) : f ^ p = ev h (pC h) (pX h ^ p) f := by
  have hh := ev_hom h (pC_hom h) (pX h ^ p)
  refine po_ind h (P := fun f => f ^ p = ev h (pC h) (pX h ^ p) f) ?_ (fun c q ih => ?_) f
  · rw [hm_zero hh, rp_0 (by have := fp_pos k; omega)]
  · rw [frob_C h k, rp_mul, hm_add hh, hm_mul hh, ev_X h (pC_hom h), ev_C h (pC_hom h), ih]
theorem frob_hom {F R : Type} [mFld F] [mRng R] {co : R → Nat → F} {L : Type} [mFld L] (h : isPol co) {p : Nat} {els : List F} (k : isFp F p els) {φ : F → L} (hφ : isHom φ) : isHom (fun x : L => x ^ p) := by
  have p2 := fp_pos k
  refine ⟨Lean.Grind.Semiring.one_pow p, fun x y => ?_, fun x y => rp_mul x y p⟩
  show (x + y) ^ p = x ^ p + y ^ p
  by_cases z : y = 0
  · rw [z, rp_0 (by omega), show x + 0 = x by grind]; grind
  · have e1 := Lean.Grind.Field.mul_inv_cancel z
    have e2 : x + y = y * (y⁻¹ * x + 1) := by grind
    have e3 : (y * y⁻¹) ^ p = 1 := by rw [e1]; exact Lean.Grind.Semiring.one_pow p
    rw [rp_mul] at e3
    rw [e2, rp_mul, frob_1 h k hφ, rp_mul]; grind
/-! lists cut by a word -/
noncomputable def fl {F : Type} (q : F → Prop) (l : List F) : List F := l.filter (fun c => @decide (q c) (Classical.propDecidable _))
theorem fl_mem {F : Type} {q : F → Prop} {l : List F} {c : F} : c ∈ fl q l ↔ c ∈ l ∧ q c := by
  unfold fl; rw [List.mem_filter]; simp
theorem fl_nodup {F : Type} {q : F → Prop} {l : List F} (h : l.Nodup) : (fl q l).Nodup := List.Pairwise.filter _ h
theorem fl_len {F : Type} (q : F → Prop) : ∀ l : List F, (fl q l).length + (fl (fun c => ¬ q c) l).length = l.length
  | [] => rfl
  | c :: l => by
    have ih := fl_len q l
    unfold fl at *
    by_cases k : q c
    · rw [List.filter_cons_of_pos (by simp [k]), List.filter_cons_of_neg (by simp [k])]
      show _ + 1 + _ = _ + 1; omega
    · rw [List.filter_cons_of_neg (by simp [k]), List.filter_cons_of_pos (by simp [k])]
      show _ + (_ + 1) = _ + 1; omega
theorem fl_fl {F : Type} (q r : F → Prop) (l : List F) : fl q (fl r l) = fl (fun c => r c ∧ q c) l := by
  unfold fl; rw [List.filter_filter]
  congr 1; funext c
  by_cases k : q c <;> by_cases m : r c <;> simp [k, m]
