/-! homomorphisms, values of polynomials, roots -/
def isHom {F L : Type} [mRng F] [mRng L] (φ : F → L) : Prop := φ 1 = 1 ∧ (∀ a b, φ (a + b) = φ a + φ b) ∧ ∀ a b, φ (a * b) = φ a * φ b
theorem hm_add {F L : Type} [mRng F] [mRng L] {φ : F → L} (h : isHom φ) (a b : F) : φ (a + b) = φ a + φ b := h.2.1 a b
theorem hm_mul {F L : Type} [mRng F] [mRng L] {φ : F → L} (h : isHom φ) (a b : F) : φ (a * b) = φ a * φ b := h.2.2 a b
theorem hm_one {F L : Type} [mRng F] [mRng L] {φ : F → L} (h : isHom φ) : φ 1 = 1 := h.1
theorem hm_zero {F L : Type} [mRng F] [mRng L] {φ : F → L} (h : isHom φ) : φ 0 = 0 := by
  have e := hm_add h 0 0
  rw [show (0 : F) + 0 = 0 by grind] at e; grind
theorem hm_neg {F L : Type} [mRng F] [mRng L] {φ : F → L} (h : isHom φ) (a : F) : φ (-a) = - φ a := by
  have e := hm_add h (-a) a
  rw [show -a + a = 0 by grind, hm_zero h] at e; grind
theorem hm_sub {F L : Type} [mRng F] [mRng L] {φ : F → L} (h : isHom φ) (a b : F) : φ (a - b) = φ a - φ b := by
  rw [show a - b = a + -b by grind, hm_add h, hm_neg h]; grind
theorem hm_pow {F L : Type} [mRng F] [mRng L] {φ : F → L} (h : isHom φ) (a : F) (n : Nat) : φ (a ^ n) = φ a ^ n := by
  induction n with
  | zero => rw [Lean.Grind.Semiring.pow_zero, Lean.Grind.Semiring.pow_zero]; exact hm_one h
  | succ n ih => rw [Lean.Grind.Semiring.pow_succ, Lean.Grind.Semiring.pow_succ, hm_mul h, ih]
theorem hm_id {F : Type} [mRng F] : isHom (fun x : F => x) := ⟨rfl, fun _ _ => rfl, fun _ _ => rfl⟩
theorem hm_comp {F G L : Type} [mRng F] [mRng G] [mRng L] {φ : F → G} {ψ : G → L} (h : isHom φ) (k : isHom ψ) : isHom (fun x => ψ (φ x)) :=
  ⟨by show ψ (φ 1) = 1; rw [hm_one h, hm_one k], fun a b => by show ψ (φ (a + b)) = _; rw [hm_add h, hm_add k], fun a b => by show ψ (φ (a * b)) = _; rw [hm_mul h, hm_mul k]⟩
theorem hm_inj {F L : Type} [mFld F] [mRng L] {φ : F → L} (h : isHom φ) (h0 : (1 : L) ≠ 0) {a b : F} (e : φ a = φ b) : a = b := by
  by_cases k : a - b = 0
  · grind
  · have h1 := Lean.Grind.Field.mul_inv_cancel k
    have h2 := hm_mul h (a - b) (a - b)⁻¹
    rw [h1, hm_one h, hm_sub h, e] at h2
    exact absurd (by rw [h2]; grind) h0
theorem hm_ne {F L : Type} [mFld F] [mRng L] {φ : F → L} (h : isHom φ) (h0 : (1 : L) ≠ 0) {a : F} (e : a ≠ 0) : φ a ≠ 0 := fun k => e (hm_inj h h0 (by rw [k, hm_zero h]))
theorem hm_rs {F L : Type} [mRng F] [mRng L] {φ : F → L} (h : isHom φ) (f : Nat → F) : ∀ n : Nat, φ (rs n f) = rs n (fun i => φ (f i))
  | 0 => hm_zero h
  | n + 1 => by show φ (rs n f + f n) = rs n (fun i => φ (f i)) + φ (f n); rw [hm_add h, hm_rs h f n]
theorem pC_hom {F R : Type} [mRng F] [mRng R] {co : R → Nat → F} (h : isPol co) : isHom (pC h) := ⟨pC_one h, pC_add h, pC_mul h⟩
noncomputable def ev {F R L : Type} [mRng F] [mRng R] [mRng L] {co : R → Nat → F} (h : isPol co) (φ : F → L) (l : L) (p : R) : L := rs (sz h p) (fun n => φ (co p n) * l ^ n)
theorem ev_rs {F R L : Type} [mRng F] [mRng R] [mRng L] {co : R → Nat → F} (h : isPol co) {φ : F → L} (hφ : isHom φ) (l : L) {p : R} {d : Nat} (e : ∀ n, d ≤ n → co p n = 0) : ev h φ l p = rs d (fun n => φ (co p n) * l ^ n) :=
  (rs_le (sz_le h e) (fun i h1 _ => by rw [sz_end h p h1, hm_zero hφ]; grind)).symm
theorem ev_add {F R L : Type} [mRng F] [mRng R] [mRng L] {co : R → Nat → F} (h : isPol co) {φ : F → L} (hφ : isHom φ) (l : L) (p q : R) : ev h φ l (p + q) = ev h φ l p + ev h φ l q := by
  obtain ⟨d, hd⟩ := po_end h p; obtain ⟨e, he⟩ := po_end h q
  rw [ev_rs h hφ l (p := p) (d := d + e) (fun n hn => hd n (by omega)), ev_rs h hφ l (p := q) (d := d + e) (fun n hn => he n (by omega)), ev_rs h hφ l (p := p + q) (d := d + e) (fun n hn => by rw [po_add h, hd n (by omega), he n (by omega)]; grind), ← rs_add]
  exact rs_ext (fun i _ => by rw [po_add h, hm_add hφ]; grind)
theorem ev_C {F R L : Type} [mRng F] [mRng R] [mRng L] {co : R → Nat → F} (h : isPol co) {φ : F → L} (hφ : isHom φ) (l : L) (c : F) : ev h φ l (pC h c) = φ c := by
  rw [ev_rs h hφ l (d := 1) (fun n hn => by rw [co_C h, if_neg (by omega)])]
  show (0 : L) + φ (co (pC h c) 0) * l ^ 0 = φ c
  rw [co_C h, if_pos rfl, Lean.Grind.Semiring.pow_zero]; grind
theorem ev_Cm {F R L : Type} [mRng F] [mRng R] [mRng L] {co : R → Nat → F} (h : isPol co) {φ : F → L} (hφ : isHom φ) (l : L) (c : F) (p : R) : ev h φ l (pC h c * p) = φ c * ev h φ l p := by
  obtain ⟨d, hd⟩ := po_end h p
  rw [ev_rs h hφ l hd, ev_rs h hφ l (p := pC h c * p) (d := d) (fun n hn => by rw [co_Cm h, hd n hn]; grind), ← rs_mul]
  exact rs_ext (fun i _ => by rw [co_Cm h, hm_mul hφ]; grind)
theorem ev_Xm {F R L : Type} [mRng F] [mRng R] [mRng L] {co : R → Nat → F} (h : isPol co) {φ : F → L} (hφ : isHom φ) (l : L) (p : R) : ev h φ l (pX h * p) = l * ev h φ l p := by
  obtain ⟨d, hd⟩ := po_end h p
  rw [ev_rs h hφ l hd, ev_rs h hφ l (p := pX h * p) (d := d + 1) (fun n hn => by
    cases n with
    | zero => omega
    | succ n => rw [co_Xs h]; exact hd n (by omega)), rs_shift, ← rs_mul, co_X0 h, hm_zero hφ]
  have e : rs d (fun i => φ (co (pX h * p) (i + 1)) * l ^ (i + 1)) = rs d (fun i => l * (φ (co p i) * l ^ i)) := rs_ext (fun i _ => by rw [co_Xs h, Lean.Grind.Semiring.pow_succ]; grind)
  rw [e]; grind
theorem ev_mul {F R L : Type} [mRng F] [mRng R] [mRng L] {co : R → Nat → F} (h : isPol co) {φ : F → L} (hφ : isHom φ) (l : L) (p q : R) : ev h φ l (p * q) = ev h φ l p * ev h φ l q := by
  have z : ev h φ l (0 : R) = 0 := by rw [ev_rs h hφ l (d := 0) (fun n _ => po_zero h n)]; rfl
  refine po_ind h (P := fun p => ev h φ l (p * q) = ev h φ l p * ev h φ l q) ?_ (fun c p ih => ?_) p
  · rw [show (0 : R) * q = 0 by grind, z]; grind
  · rw [show (pC h c + pX h * p) * q = pC h c * q + pX h * (p * q) by grind, ev_add h hφ, ev_Cm h hφ, ev_Xm h hφ, ih, ev_add h hφ, ev_C h hφ, ev_Xm h hφ]; grind
theorem ev_hom {F R L : Type} [mRng F] [mRng R] [mRng L] {co : R → Nat → F} (h : isPol co) {φ : F → L} (hφ : isHom φ) (l : L) : isHom (ev h φ l) :=
  ⟨by rw [← pC_one h, ev_C h hφ, hm_one hφ], ev_add h hφ l, ev_mul h hφ l⟩
theorem ev_X {F R L : Type} [mRng F] [mRng R] [mRng L] {co : R → Nat → F} (h : isPol co) {φ : F → L} (hφ : isHom φ) (l : L) : ev h φ l (pX h) = l := by
  have := ev_Xm h hφ l (1 : R)
  rw [hm_one (ev_hom h hφ l), show pX h * 1 = pX h by grind] at this; rw [this]; grind
/-- a polynomial's value at X is itself -/
theorem ev_self {F R : Type} [mRng F] [mRng R] {co : R → Nat → F} (h : isPol co) (p : R) : ev h (pC h) (pX h) p = p := by
  refine po_ind h (P := fun p => ev h (pC h) (pX h) p = p) (hm_zero (ev_hom h (pC_hom h) _)) (fun c p ih => ?_) p
  rw [ev_add h (pC_hom h), ev_C h (pC_hom h), ev_Xm h (pC_hom h), ih]
theorem ev_comp {F R L M : Type} [mRng F] [mRng R] [mRng L] [mRng M] {co : R → Nat → F} (h : isPol co) {φ : F → L} (hφ : isHom φ) {ψ : L → M} (hψ : isHom ψ) (l : L) (p : R) : ψ (ev h φ l p) = ev h (fun x => ψ (φ x)) (ψ l) p := by
  have hc := hm_comp hφ hψ
  refine po_ind h (P := fun p => ψ (ev h φ l p) = ev h (fun x => ψ (φ x)) (ψ l) p) (by rw [hm_zero (ev_hom h hφ l), hm_zero hψ, hm_zero (ev_hom h hc _)]) (fun c p ih => ?_) p
  rw [ev_add h hφ, ev_C h hφ, ev_Xm h hφ, hm_add hψ, hm_mul hψ, ih, ev_add h hc, ev_C h hc, ev_Xm h hc]
theorem po_root {F R : Type} [mFld F] [mRng R] {co : R → Nat → F} (h : isPol co) {p : R} {c : F} (e : ev h (fun x => x) c p = 0) : dvs (pX h - pC h c) p := by
  obtain ⟨a, r, h1, h2⟩ := po_div h (m := 1) (sz_XC h c) p
  have h3 := sz_1 h h2
  have hh := ev_hom h (hm_id (F := F)) c
  have h4 : ev h (fun x => x) c p = co r 0 := by
    rw [h1, hm_add hh, hm_mul hh, hm_sub hh, ev_X h hm_id, ev_C h hm_id, h3, ev_C h hm_id, co_C h, if_pos rfl]; grind
  rw [e] at h4
  refine ⟨a, ?_⟩
  rw [h1, h3, ← h4, pC_zero]; grind
theorem po_roots {F R : Type} [mFld F] [mRng R] {co : R → Nat → F} (h : isPol co) : ∀ (l : List F) (p : R), p ≠ 0 → l.Nodup → (∀ c, c ∈ l → ev h (fun x => x) c p = 0) → l.length < sz h p
  | [], p, hp, _, _ => by obtain ⟨d, hd⟩ := sz_pos h hp; rw [hd]; exact Nat.succ_pos d
  | c :: l, p, hp, hn, hr => by
    obtain ⟨q, e⟩ := po_root h (hr c (List.mem_cons_self ..))
    have hq : q ≠ 0 := fun k => hp (by rw [e, k]; grind)
    have hn' := List.nodup_cons.mp hn
    have hh := ev_hom h (hm_id (F := F))
    have ih := po_roots h l q hq hn'.2 (fun d hd => by
      have h1 := hr d (List.mem_cons_of_mem _ hd)
      rw [e, hm_mul (hh d), hm_sub (hh d), ev_X h hm_id, ev_C h hm_id] at h1
      rcases Lean.Grind.Field.of_mul_eq_zero h1 with k | k
      · exact absurd (show c ∈ l by have : d = c := by grind
                                    rw [← this]; exact hd) hn'.1
      · exact k)
    obtain ⟨m, hm⟩ := sz_pos h hq
    have h2 := sz_mul h (sz_XC h c) hm
    rw [← e] at h2
    show l.length + 1 < sz h p
    omega
