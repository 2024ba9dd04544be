noncomputable def wn {L : Type} [mFld L] (a : L) (W : Pt L) (Q : Pt L) : Nat → Pt L
  | 0 => W
  | n + 1 => ad a (wn a W Q n) Q
theorem wn_on {L : Type} [mFld L] {a b : L} (h2 : (2 : L) ≠ 0) (hns : 4 * a * a * a + 27 * b * b ≠ 0) {W Q : Pt L} (hW : onE a b W) (hQ : onE a b Q) : ∀ n : Nat, onE a b (wn a W Q n)
  | 0 => hW
  | n + 1 => ad_on h2 hns (wn_on h2 hns hW hQ n) hQ
theorem ad_back {L : Type} [mFld L] {a b : L} (h2 : (2 : L) ≠ 0) (hns : 4 * a * a * a + 27 * b * b ≠ 0) {W Q : Pt L} (hW : onE a b W) (hQ : onE a b Q) : ad a (ad a W Q) (ng Q) = W := by
  rw [ad_assoc h2 hns hW hQ (on_ng hQ), ad_ng, ad_0]
theorem chn_ev {F R : Type} [mFld F] [mRng R] {co : R → Nat → F} {L : Type} [mFld L] (h : isPol co) {φ : F → L} (hφ : isHom φ) {a b : F} (h2 : (2 : F) ≠ 0) (hns : 4 * a * a * a + 27 * b * b ≠ 0) {W : Pt L} {Q : L × L} (hW : onE (φ a) (φ b) W) (hQ : onE (φ a) (φ b) (some Q)) {p q : R × R} (g : gGood h a b p q) (hp : evp h φ Q.1 p W) (hq : evp h φ Q.1 q (ad (φ a) W (some Q))) (n : Nat) : evp h φ Q.1 (chn h a b p q n) (wn (φ a) W (some Q) n) := by
  obtain ⟨n2, nn⟩ := hom_ns hφ h2 hns
  have key : ∀ n, evp h φ Q.1 (chn h a b p q n) (wn (φ a) W (some Q) n) ∧ evp h φ Q.1 (chn h a b p q (n + 1)) (wn (φ a) W (some Q) (n + 1)) := by
    intro n
    induction n with
    | zero => exact ⟨hp, hq⟩
    | succ n ih =>
      refine ⟨ih.2, ?_⟩
      have o := wn_on n2 nn hW hQ
      refine stp_ev h hφ h2 hns (o (n + 1)) hQ (chn_good h h2 hns g n).2 ih.2 ?_
      show evp h φ Q.1 (chn h a b p q n) (ad (φ a) (ad (φ a) (wn (φ a) W (some Q) n) (some Q)) (ng (some Q)))
      rw [ad_back n2 nn (o n) hQ]; exact ih.1
  exact (key n).1
/-- the chain of the multiples -/
theorem good_mul {F R : Type} [mFld F] [mRng R] {co : R → Nat → F} (h : isPol co) (a b : F) : gGood h a b ((1 : R), (0 : R)) (pX h, (1 : R)) := by
  refine ⟨⟨1, 0, by grind⟩, ⟨0, 1, by grind⟩, ?_, ?_, ?_⟩
  · show sz h (0 : R) < sz h (1 : R)
    rw [sz_zero, ← pC_one h, sz_C h (fun z => Lean.Grind.Field.zero_ne_one z.symm)]; omega
  · show sz h (1 : R) < sz h (pX h)
    rw [sz_X, ← pC_one h, sz_C h (fun z => Lean.Grind.Field.zero_ne_one z.symm)]; omega
  · unfold gRel gD; show (pX h - pX h * 1) * (pX h - pX h * 1) * (1 * 1) - gS (pC h a) (pC h b) (pX h) (pX h) 1 * (1 * 0) + gM (pC h a) (pC h b) (pX h) (pX h) 1 * (0 * 0) = 0; grind
noncomputable def mch {F R : Type} [mRng F] [mRng R] {co : R → Nat → F} (h : isPol co) (a b : F) (n : Nat) : R × R := chn h a b (1, 0) (pX h, 1) n
theorem mch_sz {F R : Type} [mFld F] [mRng R] {co : R → Nat → F} (h : isPol co) {a b : F} (h2 : (2 : F) ≠ 0) (hns : 4 * a * a * a + 27 * b * b ≠ 0) (n : Nat) : sz h (mch h a b n).1 = n * n + 1 := by
  have key : ∀ n, sz h (mch h a b n).1 = n * n + 1 ∧ sz h (mch h a b (n + 1)).1 = (n + 1) * (n + 1) + 1 := by
    intro n
    induction n with
    | zero => exact ⟨by show sz h (1 : R) = _; rw [← pC_one h, sz_C h (fun z => Lean.Grind.Field.zero_ne_one z.symm)], by show sz h (pX h) = _; rw [sz_X]⟩
    | succ n ih =>
      refine ⟨ih.2, ?_⟩
      have e := chn_sz h h2 hns (good_mul h a b) n
      have i1 := ih.1
      have i2 := ih.2
      unfold mch at *
      have q1 : (n + 1) * (n + 1) = n * n + 2 * n + 1 := by grind
      have q2 : (n + 1 + 1) * (n + 1 + 1) = n * n + 4 * n + 4 := by grind
      rw [i1, i2, q1] at e
      rw [q2]
      show sz h (chn h a b (1, 0) (pX h, 1) (n + 2)).1 = _
      generalize n * n = m at *
      omega
  exact (key n).1
theorem mch_good {F R : Type} [mFld F] [mRng R] {co : R → Nat → F} (h : isPol co) {a b : F} (h2 : (2 : F) ≠ 0) (hns : 4 * a * a * a + 27 * b * b ≠ 0) (n : Nat) : cop (mch h a b n).1 (mch h a b n).2 ∧ sz h (mch h a b n).2 < sz h (mch h a b n).1 := by
  have := (chn_good h h2 hns (good_mul h a b) n).1
  exact ⟨this.1, this.2.2.1⟩
theorem mch_2 {F R : Type} [mFld F] [mRng R] {co : R → Nat → F} (h : isPol co) {a b : F} (h2 : (2 : F) ≠ 0) (hns : 4 * a * a * a + 27 * b * b ≠ 0) {n : Nat} (hn : 0 < n) : (mch h a b n).2 ≠ 0 := fun z => by
  obtain ⟨u, v, e⟩ := (mch_good h h2 hns n).1
  rw [z] at e
  have k := (dvs_C h (g := (mch h a b n).1) (k := (1 : F)) (fun z => Lean.Grind.Field.zero_ne_one z.symm) ⟨u, by rw [pC_one, ← e]; grind⟩).2
  rw [mch_sz h h2 hns] at k
  have : 0 < n * n := Nat.mul_pos hn hn
  omega
theorem mch_ev {F R : Type} [mFld F] [mRng R] {co : R → Nat → F} {L : Type} [mFld L] (h : isPol co) {φ : F → L} (hφ : isHom φ) {a b : F} (h2 : (2 : F) ≠ 0) (hns : 4 * a * a * a + 27 * b * b ≠ 0) {Q : L × L} (hQ : onE (φ a) (φ b) (some Q)) (n : Nat) : evp h φ Q.1 (mch h a b n) (wn (φ a) none (some Q) n) := by
  have h1 : (1 : L) ≠ 0 := fun z => Lean.Grind.Field.zero_ne_one z.symm
  have hh := ev_hom h hφ Q.1
  refine chn_ev h hφ h2 hns (show onE (φ a) (φ b) none from trivial) hQ (good_mul h a b) ⟨1, h1, ?_, ?_⟩ ⟨1, h1, ?_, ?_⟩ n
  · show ev h φ Q.1 1 = 1 * 1; rw [hm_one hh]; grind
  · show ev h φ Q.1 0 = 1 * 0; rw [hm_zero hh]; grind
  · show ev h φ Q.1 (pX h) = 1 * Q.1; rw [ev_X h hφ]; grind
  · show ev h φ Q.1 1 = 1 * 1; rw [hm_one hh]; grind
/-- of the points that n makes nothing there are few x -/
theorem tors_x {F : Type} [mFld F] {a b : F} (h2 : (2 : F) ≠ 0) (hns : 4 * a * a * a + 27 * b * b ≠ 0) {n : Nat} (hn : 0 < n) (l : List F) (hl : l.Nodup) (k : ∀ x, x ∈ l → ∃ y, onE a b (some (x, y)) ∧ wn a none (some (x, y)) n = none) : l.length < n * n := by
  obtain ⟨R, iR, co, h⟩ := pol_ex F
  have r := po_roots h l (mch h a b n).2 (mch_2 h h2 hns hn) hl (fun x hx => by
    obtain ⟨y, h3, h4⟩ := k x hx
    obtain ⟨κ, -, -, h5⟩ := mch_ev h (hm_id (F := F)) h2 hns h3 n
    rw [h4] at h5
    rw [show ev h (fun x => x) x (mch h a b n).2 = κ * 0 from h5]; grind)
  have := (mch_good h h2 hns n).2
  rw [mch_sz h h2 hns] at this
  omega
/-! products over lists -/
noncomputable def prl {F R : Type} [mRng F] [mRng R] {co : R → Nat → F} (h : isPol co) : List F → R
  | [] => 1
  | c :: l => (pX h - pC h c) * prl h l
theorem prl_sz {F R : Type} [mFld F] [mRng R] {co : R → Nat → F} (h : isPol co) : ∀ l : List F, sz h (prl h l) = l.length + 1
  | [] => by show sz h (1 : R) = 1; rw [← pC_one h, sz_C h (fun z => Lean.Grind.Field.zero_ne_one z.symm)]
  | c :: l => by
    show sz h ((pX h - pC h c) * prl h l) = _
    rw [sz_mul h (sz_XC h c) (prl_sz h l)]; show _ = l.length + 1 + 1; omega
theorem prl_mon {F R : Type} [mFld F] [mRng R] {co : R → Nat → F} (h : isPol co) : ∀ l : List F, co (prl h l) l.length = 1
  | [] => by show co 1 0 = 1; rw [po_one h]; rfl
  | c :: l => by
    show co ((pX h - pC h c) * prl h l) (l.length + 1) = 1
    have := (sz_mle h (Nat.le_of_eq (sz_XC h c)) (Nat.le_of_eq (prl_sz h l))).2
    rw [show l.length + 1 = 1 + l.length by omega, this, prl_mon h l, po_sub h, co_X h, co_C h, if_pos rfl, if_neg (by omega)]; grind
theorem prl_app {F R : Type} [mRng F] [mRng R] {co : R → Nat → F} (h : isPol co) : ∀ l m : List F, prl h (l ++ m) = prl h l * prl h m
  | [], m => by show prl h m = 1 * prl h m; grind
  | c :: l, m => by show (pX h - pC h c) * prl h (l ++ m) = (pX h - pC h c) * prl h l * prl h m; rw [prl_app h l m]; grind
theorem ev_XC {F R : Type} [mRng F] [mRng R] {co : R → Nat → F} (h : isPol co) (d c : F) : ev h (fun x => x) d (pX h - pC h c) = d - c := by
  rw [hm_sub (ev_hom h hm_id _), ev_X h hm_id, ev_C h hm_id]
theorem prl_0 {F R : Type} [mRng F] [mRng R] {co : R → Nat → F} (h : isPol co) {c : F} : ∀ {l : List F}, c ∈ l → ev h (fun x => x) c (prl h l) = 0
  | d :: l, hc => by
    show ev h (fun x => x) c ((pX h - pC h d) * prl h l) = 0
    rw [hm_mul (ev_hom h hm_id _), ev_XC]
    rcases List.mem_cons.mp hc with e | e
    · rw [e]; grind
    · rw [prl_0 h e]; grind
theorem prl_n {F R : Type} [mFld F] [mRng R] {co : R → Nat → F} (h : isPol co) {c : F} : ∀ {l : List F}, c ∉ l → ev h (fun x => x) c (prl h l) ≠ 0
  | [], _ => by show ev h (fun x => x) c 1 ≠ 0; rw [hm_one (ev_hom h hm_id _)]; exact fun z => Lean.Grind.Field.zero_ne_one z.symm
  | d :: l, hc => by
    show ev h (fun x => x) c ((pX h - pC h d) * prl h l) ≠ 0
    rw [hm_mul (ev_hom h hm_id _), ev_XC]
    intro z
    rcases Lean.Grind.Field.of_mul_eq_zero z with e | e
    · exact hc (List.mem_cons.mpr (Or.inl (by grind)))
    · exact prl_n h (fun k => hc (List.mem_cons_of_mem _ k)) e
theorem prl_dvs {F R : Type} [mFld F] [mRng R] {co : R → Nat → F} (h : isPol co) : ∀ (l : List F) (p : R), l.Nodup → (∀ c, c ∈ l → ev h (fun x => x) c p = 0) → dvs (prl h l) p
  | [], p, _, _ => ⟨p, by show p = 1 * p; grind⟩
  | c :: l, p, hn, hr => by
    obtain ⟨q, e⟩ := po_root h (hr c (List.mem_cons_self ..))
    have hn' := List.nodup_cons.mp hn
    obtain ⟨k, e2⟩ := prl_dvs h l q hn'.2 (fun d hd => by
      have h1 := hr d (List.mem_cons_of_mem _ hd)
      rw [e, hm_mul (ev_hom h hm_id _), ev_XC] at h1
      rcases Lean.Grind.Field.of_mul_eq_zero h1 with k | k
      · exact absurd (show c ∈ l by have : d = c := by grind
                                    rw [← this]; exact hd) hn'.1
      · exact k)
    exact ⟨k, by show p = (pX h - pC h c) * prl h l * k; rw [e, e2]; grind⟩
theorem cop_XC {F R : Type} [mFld F] [mRng R] {co : R → Nat → F} (h : isPol co) {p : R} {c : F} (e : ev h (fun x => x) c p ≠ 0) : cop p (pX h - pC h c) := by
  obtain ⟨q, e2⟩ := po_root h (p := p - pC h (ev h (fun x => x) c p)) (c := c) (by rw [hm_sub (ev_hom h hm_id _), ev_C h hm_id]; grind)
  refine ⟨pC h (ev h (fun x => x) c p)⁻¹, - (pC h (ev h (fun x => x) c p)⁻¹ * q), ?_⟩
  have e3 : pC h (ev h (fun x => x) c p)⁻¹ * pC h (ev h (fun x => x) c p) = 1 := by rw [← pC_mul, Lean.Grind.Field.inv_mul_cancel e, pC_one]
  have e4 : pC h (ev h (fun x => x) c p)⁻¹ * p + -(pC h (ev h (fun x => x) c p)⁻¹ * q) * (pX h - pC h c) = pC h (ev h (fun x => x) c p)⁻¹ * (p - (pX h - pC h c) * q) := by grind
  rw [e4, ← e2, ← e3]; grind
theorem cop_prl {F R : Type} [mFld F] [mRng R] {co : R → Nat → F} (h : isPol co) {p : R} : ∀ {l : List F}, (∀ c, c ∈ l → ev h (fun x => x) c p ≠ 0) → cop p (prl h l)
  | [], _ => ⟨0, 1, by show 0 * p + 1 * 1 = 1; grind⟩
  | c :: l, k => cop_mul (cop_XC h (k c (List.mem_cons_self ..))) (cop_prl h (fun d hd => k d (List.mem_cons_of_mem _ hd)))
/-- where two polynomials of one size with one leading number agree at enough places they are one -/
theorem po_agree {F R : Type} [mFld F] [mRng R] {co : R → Nat → F} (h : isPol co) {p q : R} {l : List F} (hl : l.Nodup) (hp : sz h p ≤ l.length + 1) (hq : sz h q ≤ l.length + 1) (ht : co p l.length = co q l.length) (k : ∀ c, c ∈ l → ev h (fun x => x) c p = ev h (fun x => x) c q) : p = q := by
  have s : sz h (p - q) ≤ l.length := sz_le h (fun n hn => by
    rw [po_sub h]
    by_cases e : n = l.length
    · rw [e, ht]; grind
    · rw [sz_end h p (by omega), sz_end h q (by omega)]; grind)
  have e : p - q = 0 := Classical.byContradiction (fun ne => by
    have := po_roots h l (p - q) ne hl (fun c hc => by rw [hm_sub (ev_hom h hm_id _), k c hc]; grind)
    omega)
  grind
