theorem po_ext {F R : Type} [mRng F] [mRng R] {co : R → Nat → F} (h : isPol co) {p q : R} (e : ∀ n, co p n = co q n) : p = q := h.1 p q e
theorem po_end {F R : Type} [mRng F] [mRng R] {co : R → Nat → F} (h : isPol co) (p : R) : ∃ d, ∀ n, d ≤ n → co p n = 0 := h.2.1 p
theorem po_add {F R : Type} [mRng F] [mRng R] {co : R → Nat → F} (h : isPol co) (p q : R) (n : Nat) : co (p + q) n = co p n + co q n := h.2.2.1 p q n
theorem po_mul {F R : Type} [mRng F] [mRng R] {co : R → Nat → F} (h : isPol co) (p q : R) : co (p * q) = sq_cv (co p) (co q) := h.2.2.2.1 p q
theorem po_one {F R : Type} [mRng F] [mRng R] {co : R → Nat → F} (h : isPol co) : co 1 = sq_on := h.2.2.2.2.1
theorem po_mk {F R : Type} [mRng F] [mRng R] {co : R → Nat → F} (h : isPol co) (c : Nat → F) (e : ∃ d, ∀ n, d ≤ n → c n = 0) : ∃ p, co p = c := h.2.2.2.2.2 c e
theorem po_zero {F R : Type} [mRng F] [mRng R] {co : R → Nat → F} (h : isPol co) (n : Nat) : co 0 n = 0 := by
  have e := po_add h 0 0 n
  rw [show (0 : R) + 0 = 0 by grind] at e; grind
theorem po_neg {F R : Type} [mRng F] [mRng R] {co : R → Nat → F} (h : isPol co) (p : R) (n : Nat) : co (-p) n = - co p n := by
  have e := po_add h (-p) p n
  rw [show -p + p = 0 by grind, po_zero h] at e; grind
theorem po_sub {F R : Type} [mRng F] [mRng R] {co : R → Nat → F} (h : isPol co) (p q : R) (n : Nat) : co (p - q) n = co p n - co q n := by
  rw [show p - q = p + -q by grind, po_add h, po_neg h]; grind
noncomputable def pC {F R : Type} [mRng F] [mRng R] {co : R → Nat → F} (h : isPol co) (c : F) : R :=
  Classical.choose (po_mk h (fun n => if n = 0 then c else 0) ⟨1, fun n hn => if_neg (by omega)⟩)
noncomputable def pX {F R : Type} [mRng F] [mRng R] {co : R → Nat → F} (h : isPol co) : R :=
  Classical.choose (po_mk h (fun n => if n = 1 then 1 else 0) ⟨2, fun n hn => if_neg (by omega)⟩)
theorem co_C {F R : Type} [mRng F] [mRng R] {co : R → Nat → F} (h : isPol co) (c : F) (n : Nat) : co (pC h c) n = if n = 0 then c else 0 :=
  congrFun (Classical.choose_spec (po_mk h (fun n => if n = 0 then c else 0) ⟨1, fun n hn => if_neg (by omega)⟩)) n
theorem co_X {F R : Type} [mRng F] [mRng R] {co : R → Nat → F} (h : isPol co) (n : Nat) : co (pX h) n = if n = 1 then 1 else 0 :=
  congrFun (Classical.choose_spec (po_mk h (fun n => if n = 1 then 1 else 0) ⟨2, fun n hn => if_neg (by omega)⟩)) n
theorem co_Cm {F R : Type} [mRng F] [mRng R] {co : R → Nat → F} (h : isPol co) (c : F) (p : R) (n : Nat) : co (pC h c * p) n = c * co p n := by
  rw [po_mul h]
  show rs (n + 1) (fun i => co (pC h c) i * co p (n - i)) = _
  rw [rs_one (u := 0) (by omega) (fun i hi hn => by rw [co_C h, if_neg hn]; grind), co_C h, if_pos rfl, Nat.sub_zero]
theorem co_X0 {F R : Type} [mRng F] [mRng R] {co : R → Nat → F} (h : isPol co) (p : R) : co (pX h * p) 0 = 0 := by
  rw [po_mul h]
  show (0 : F) + co (pX h) 0 * co p 0 = 0
  rw [co_X h, if_neg (by omega)]; grind
theorem co_Xs {F R : Type} [mRng F] [mRng R] {co : R → Nat → F} (h : isPol co) (p : R) (n : Nat) : co (pX h * p) (n + 1) = co p n := by
  rw [po_mul h]
  show rs (n + 1 + 1) (fun i => co (pX h) i * co p (n + 1 - i)) = _
  rw [rs_one (u := 1) (by omega) (fun i hi hn => by rw [co_X h, if_neg hn]; grind), co_X h, if_pos rfl, show n + 1 - 1 = n by omega]; grind
theorem pC_add {F R : Type} [mRng F] [mRng R] {co : R → Nat → F} (h : isPol co) (c d : F) : pC h (c + d) = pC h c + pC h d :=
  po_ext h (fun n => by rw [po_add h, co_C h, co_C h, co_C h]; split <;> grind)
theorem pC_mul {F R : Type} [mRng F] [mRng R] {co : R → Nat → F} (h : isPol co) (c d : F) : pC h (c * d) = pC h c * pC h d :=
  po_ext h (fun n => by rw [co_Cm h, co_C h, co_C h]; split <;> grind)
theorem pC_one {F R : Type} [mRng F] [mRng R] {co : R → Nat → F} (h : isPol co) : pC h 1 = 1 :=
  po_ext h (fun n => by rw [po_one h, co_C h]; rfl)
theorem pC_zero {F R : Type} [mRng F] [mRng R] {co : R → Nat → F} (h : isPol co) : pC h 0 = 0 :=
  po_ext h (fun n => by rw [po_zero h, co_C h]; split <;> rfl)
theorem pC_neg {F R : Type} [mRng F] [mRng R] {co : R → Nat → F} (h : isPol co) (c : F) : pC h (-c) = - pC h c :=
  po_ext h (fun n => by rw [po_neg h, co_C h, co_C h]; split <;> grind)
theorem pC_sub {F R : Type} [mRng F] [mRng R] {co : R → Nat → F} (h : isPol co) (c d : F) : pC h (c - d) = pC h c - pC h d := by
  rw [show c - d = c + -d by grind, pC_add, pC_neg]; grind
theorem pC_inj {F R : Type} [mRng F] [mRng R] {co : R → Nat → F} (h : isPol co) {c d : F} (e : pC h c = pC h d) : c = d := by
  have := congrArg (fun p => co p 0) e
  simp only [co_C h, if_pos] at this; exact this
theorem po_split {F R : Type} [mRng F] [mRng R] {co : R → Nat → F} (h : isPol co) {p : R} {d : Nat} (e : ∀ n, d + 1 ≤ n → co p n = 0) : ∃ q, (∀ n, co q n = co p (n + 1)) ∧ (∀ n, d ≤ n → co q n = 0) ∧ p = pC h (co p 0) + pX h * q := by
  obtain ⟨q, hq⟩ := po_mk h (fun n => co p (n + 1)) ⟨d, fun n hn => e (n + 1) (by omega)⟩
  refine ⟨q, fun n => by rw [hq], fun n hn => by rw [hq]; exact e (n + 1) (by omega), po_ext h (fun n => ?_)⟩
  cases n with
  | zero => rw [po_add h, co_X0 h, co_C h, if_pos rfl]; grind
  | succ n => rw [po_add h, co_Xs h, co_C h, if_neg (by omega), hq]; grind
theorem po_ind {F R : Type} [mRng F] [mRng R] {co : R → Nat → F} (h : isPol co) {P : R → Prop} (h0 : P 0) (hs : ∀ c q, P q → P (pC h c + pX h * q)) (p : R) : P p := by
  have key : ∀ (d : Nat) (p : R), (∀ n, d ≤ n → co p n = 0) → P p := by
    intro d
    induction d with
    | zero => intro p e; rw [po_ext h (p := p) (q := 0) (fun n => by rw [e n (by omega), po_zero h])]; exact h0
    | succ d ih => intro p e; obtain ⟨q, -, h2, h3⟩ := po_split h e; rw [h3]; exact hs _ _ (ih q h2)
  obtain ⟨d, hd⟩ := po_end h p
  exact key d p hd
/-! size: one more than the degree, 0 of 0 -/
theorem nat_least {p : Nat → Prop} (n : Nat) (hn : p n) : ∃ k, p k ∧ ∀ j, j < k → ¬ p j := by
  induction n using Nat.strongRecOn with
  | ind n ih =>
    by_cases e : ∃ j, j < n ∧ p j
    · obtain ⟨j, hj, hp⟩ := e; exact ih j hj hp
    · exact ⟨n, hn, fun j hj hp => e ⟨j, hj, hp⟩⟩
theorem sz_ex {F R : Type} [mRng F] [mRng R] {co : R → Nat → F} (h : isPol co) (p : R) : ∃ d, (∀ n, d ≤ n → co p n = 0) ∧ ∀ j, j < d → ¬ ∀ n, j ≤ n → co p n = 0 := by
  obtain ⟨d, hd⟩ := po_end h p
  exact nat_least (p := fun d => ∀ n, d ≤ n → co p n = 0) d hd
noncomputable def sz {F R : Type} [mRng F] [mRng R] {co : R → Nat → F} (h : isPol co) (p : R) : Nat := Classical.choose (sz_ex h p)
theorem sz_end {F R : Type} [mRng F] [mRng R] {co : R → Nat → F} (h : isPol co) (p : R) {n : Nat} (hn : sz h p ≤ n) : co p n = 0 := (Classical.choose_spec (sz_ex h p)).1 n hn
theorem sz_le {F R : Type} [mRng F] [mRng R] {co : R → Nat → F} (h : isPol co) {p : R} {d : Nat} (e : ∀ n, d ≤ n → co p n = 0) : sz h p ≤ d := by
  refine Nat.le_of_not_lt (fun k => (Classical.choose_spec (sz_ex h p)).2 d k e)
theorem sz_top {F R : Type} [mRng F] [mRng R] {co : R → Nat → F} (h : isPol co) {p : R} {d : Nat} (e : sz h p = d + 1) : co p d ≠ 0 := fun k => by
  have : sz h p ≤ d := sz_le h (fun n hn => by
    by_cases q : n = d
    · rw [q]; exact k
    · exact sz_end h p (by omega))
  omega
theorem sz_eq {F R : Type} [mRng F] [mRng R] {co : R → Nat → F} (h : isPol co) {p : R} {d : Nat} (e : ∀ n, d + 1 ≤ n → co p n = 0) (t : co p d ≠ 0) : sz h p = d + 1 := by
  have h1 := sz_le h e
  have h2 : ¬ sz h p ≤ d := fun k => t (sz_end h p k)
  omega
theorem sz_zero {F R : Type} [mRng F] [mRng R] {co : R → Nat → F} (h : isPol co) : sz h (0 : R) = 0 := Nat.le_zero.mp (sz_le h (fun n _ => po_zero h n))
theorem sz_0 {F R : Type} [mRng F] [mRng R] {co : R → Nat → F} (h : isPol co) {p : R} (e : sz h p = 0) : p = 0 :=
  po_ext h (fun n => by rw [po_zero h]; exact sz_end h p (by omega))
theorem sz_pos {F R : Type} [mRng F] [mRng R] {co : R → Nat → F} (h : isPol co) {p : R} (e : p ≠ 0) : ∃ d, sz h p = d + 1 := by
  cases q : sz h p with
  | zero => exact absurd (sz_0 h q) e
  | succ d => exact ⟨d, rfl⟩
theorem sz_add {F R : Type} [mRng F] [mRng R] {co : R → Nat → F} (h : isPol co) {p q : R} {d : Nat} (hp : sz h p ≤ d) (hq : sz h q ≤ d) : sz h (p + q) ≤ d :=
  sz_le h (fun n hn => by rw [po_add h, sz_end h p (by omega), sz_end h q (by omega)]; grind)
theorem sz_neg {F R : Type} [mRng F] [mRng R] {co : R → Nat → F} (h : isPol co) (p : R) : sz h (-p) = sz h p := by
  have k : ∀ p : R, sz h (-p) ≤ sz h p := fun p => sz_le h (fun n hn => by rw [po_neg h, sz_end h p hn]; grind)
  have h1 := k p
  have h2 := k (-p)
  rw [show - -p = p by grind] at h2; omega
theorem sz_sub {F R : Type} [mRng F] [mRng R] {co : R → Nat → F} (h : isPol co) {p q : R} {d : Nat} (hp : sz h p ≤ d) (hq : sz h q ≤ d) : sz h (p - q) ≤ d := by
  rw [show p - q = p + -q by grind]; exact sz_add h hp (by rw [sz_neg]; exact hq)
theorem sz_addl {F R : Type} [mRng F] [mRng R] {co : R → Nat → F} (h : isPol co) {p q : R} (e : sz h q < sz h p) : sz h (p + q) = sz h p := by
  cases k : sz h p with
  | zero => omega
  | succ d => exact sz_eq h (fun n hn => by rw [po_add h, sz_end h p (by omega), sz_end h q (by omega)]; grind) (by rw [po_add h, sz_end h q (by omega)]; have := sz_top h k; grind)
theorem sz_mle {F R : Type} [mRng F] [mRng R] {co : R → Nat → F} (h : isPol co) {p q : R} {d e : Nat} (hp : sz h p ≤ d + 1) (hq : sz h q ≤ e + 1) : sz h (p * q) ≤ d + e + 1 ∧ co (p * q) (d + e) = co p d * co q e := by
  refine ⟨sz_le h (fun n hn => ?_), ?_⟩
  · rw [po_mul h]
    refine rs_z (fun i hi => ?_)
    by_cases k : d < i
    · rw [sz_end h p (by omega)]; grind
    · rw [sz_end h q (n := n - i) (by omega)]; grind
  · rw [po_mul h]
    show rs (d + e + 1) (fun i => co p i * co q (d + e - i)) = _
    rw [rs_one (u := d) (by omega) (fun i hi hn => ?_), show d + e - d = e by omega]
    by_cases k : d < i
    · rw [sz_end h p (by omega)]; grind
    · rw [sz_end h q (n := d + e - i) (by omega)]; grind
theorem sz_mul {F R : Type} [mFld F] [mRng R] {co : R → Nat → F} (h : isPol co) {p q : R} {d e : Nat} (hp : sz h p = d + 1) (hq : sz h q = e + 1) : sz h (p * q) = d + e + 1 := by
  obtain ⟨h1, h2⟩ := sz_mle h (Nat.le_of_eq hp) (Nat.le_of_eq hq)
  refine sz_eq h (fun n hn => sz_end h _ (by omega)) ?_
  rw [h2]; intro k
  rcases Lean.Grind.Field.of_mul_eq_zero k with k | k
  · exact sz_top h hp k
  · exact sz_top h hq k
theorem po_dom {F R : Type} [mFld F] [mRng R] {co : R → Nat → F} (h : isPol co) {p q : R} (e : p * q = 0) : p = 0 ∨ q = 0 := by
  by_cases h1 : p = 0
  · exact Or.inl h1
  · by_cases h2 : q = 0
    · exact Or.inr h2
    · obtain ⟨d, hd⟩ := sz_pos h h1
      obtain ⟨f, hf⟩ := sz_pos h h2
      have := sz_mul h hd hf
      rw [e, sz_zero] at this; omega
theorem po_one0 {F R : Type} [mFld F] [mRng R] {co : R → Nat → F} (h : isPol co) : (1 : R) ≠ 0 := fun e => by
  have h1 : co (1 : R) 0 = co (0 : R) 0 := by rw [e]
  rw [po_one h, po_zero h] at h1
  exact Lean.Grind.Field.zero_ne_one h1.symm
theorem po_canc {F R : Type} [mFld F] [mRng R] {co : R → Nat → F} (h : isPol co) {p q r : R} (hp : p ≠ 0) (e : p * q = p * r) : q = r := by
  rcases po_dom h (p := p) (q := q - r) (by grind) with k | k
  · exact absurd k hp
  · grind
theorem sz_C {F R : Type} [mRng F] [mRng R] {co : R → Nat → F} (h : isPol co) {c : F} (e : c ≠ 0) : sz h (pC h c) = 1 :=
  sz_eq h (d := 0) (fun n hn => by rw [co_C h, if_neg (by omega)]) (by rw [co_C h, if_pos rfl]; exact e)
theorem sz_Cle {F R : Type} [mRng F] [mRng R] {co : R → Nat → F} (h : isPol co) (c : F) : sz h (pC h c) ≤ 1 :=
  sz_le h (fun n hn => by rw [co_C h, if_neg (by omega)])
theorem sz_1 {F R : Type} [mRng F] [mRng R] {co : R → Nat → F} (h : isPol co) {p : R} (e : sz h p ≤ 1) : p = pC h (co p 0) :=
  po_ext h (fun n => by
    rw [co_C h]
    by_cases k : n = 0
    · rw [if_pos k, k]
    · rw [if_neg k]; exact sz_end h p (by omega))
theorem sz_XC {F R : Type} [mFld F] [mRng R] {co : R → Nat → F} (h : isPol co) (c : F) : sz h (pX h - pC h c) = 2 :=
  sz_eq h (d := 1) (fun n hn => by rw [po_sub h, co_X h, co_C h, if_neg (by omega), if_neg (by omega)]; grind) (by
    rw [po_sub h, co_X h, co_C h, if_pos rfl, if_neg (by omega)]; have := Lean.Grind.Field.zero_ne_one (α := F); grind)
theorem sz_X {F R : Type} [mFld F] [mRng R] {co : R → Nat → F} (h : isPol co) : sz h (pX h) = 2 := by
  have := sz_XC h 0
  rwa [pC_zero, show pX h - 0 = pX h by grind] at this
/-! division, the greatest common part -/
theorem po_div {F R : Type} [mFld F] [mRng R] {co : R → Nat → F} (h : isPol co) {q : R} {m : Nat} (hq : sz h q = m + 1) (p : R) : ∃ a r, p = a * q + r ∧ sz h r ≤ m := by
  refine po_ind h (P := fun p => ∃ a r, p = a * q + r ∧ sz h r ≤ m) ⟨0, 0, by grind, by rw [sz_zero]; omega⟩ (fun c p ih => ?_) p
  obtain ⟨a, r, e, hr⟩ := ih
  have ht := sz_top h hq
  let s := pC h c + pX h * r
  have hs : ∀ n, m + 1 ≤ n → co s n = 0 := fun n hn => by
    cases n with
    | zero => omega
    | succ n => show co (pC h c + pX h * r) (n + 1) = 0; rw [po_add h, co_Xs h, co_C h, if_neg (by omega), sz_end h r (by omega)]; grind
  let k := co s m * (co q m)⁻¹
  have hk : k * co q m = co s m := by
    show co s m * (co q m)⁻¹ * co q m = co s m
    have := Lean.Grind.Field.mul_inv_cancel ht; grind
  refine ⟨pX h * a + pC h k, s - pC h k * q, ?_, sz_le h (fun n hn => ?_)⟩
  · show pC h c + pX h * p = (pX h * a + pC h k) * q + (pC h c + pX h * r - pC h k * q)
    rw [e]; grind
  · rw [po_sub h, co_Cm h]
    by_cases e1 : n = m
    · rw [e1, hk]; grind
    · rw [hs n (by omega), sz_end h q (by omega)]; grind
def dvs {R : Type} [mRng R] (g p : R) : Prop := ∃ k, p = g * k
theorem po_gcd {F R : Type} [mFld F] [mRng R] {co : R → Nat → F} (h : isPol co) : ∀ (n : Nat) (p q : R), sz h q ≤ n → ∃ g u v, g = u * p + v * q ∧ dvs g p ∧ dvs g q
  | 0, p, q, hq => ⟨p, 1, 0, by grind, ⟨1, by grind⟩, ⟨0, by rw [sz_0 h (Nat.le_zero.mp hq)]; grind⟩⟩
  | n + 1, p, q, hq => by
    by_cases e : q = 0
    · exact ⟨p, 1, 0, by grind, ⟨1, by grind⟩, ⟨0, by rw [e]; grind⟩⟩
    · obtain ⟨m, hm⟩ := sz_pos h e
      obtain ⟨a, r, h1, h2⟩ := po_div h hm p
      obtain ⟨g, u, v, h3, ⟨k, h4⟩, ⟨l, h5⟩⟩ := po_gcd h n q r (by omega)
      exact ⟨g, v, u - v * a, by grind, ⟨a * k + l, by grind⟩, ⟨k, h4⟩⟩
def cop {R : Type} [mRng R] (p q : R) : Prop := ∃ u v, u * p + v * q = 1
theorem cop_dvs {R : Type} [mRng R] {p q r : R} (h : cop p q) (d : dvs p (q * r)) : dvs p r := by
  obtain ⟨u, v, h⟩ := h; obtain ⟨k, d⟩ := d
  exact ⟨u * r + v * k, by grind⟩
theorem cop_symm {R : Type} [mRng R] {p q : R} (h : cop p q) : cop q p := by
  obtain ⟨u, v, h⟩ := h; exact ⟨v, u, by grind⟩
theorem cop_mul {R : Type} [mRng R] {p q r : R} (h : cop p q) (g : cop p r) : cop p (q * r) := by
  obtain ⟨u, v, h⟩ := h; obtain ⟨u', v', g⟩ := g
  exact ⟨u * u' * p + u * v' * r + v * q * u', v * v', by grind⟩
/-- where every common part is of size 1, some combination is 1 -/
theorem cop_of {F R : Type} [mFld F] [mRng R] {co : R → Nat → F} (h : isPol co) {p q : R} (k : ∀ g, dvs g p → dvs g q → g ≠ 0 ∧ sz h g ≤ 1) : cop p q := by
  obtain ⟨g, u, v, h1, h2, h3⟩ := po_gcd h _ p q (Nat.le_refl _)
  obtain ⟨h4, h5⟩ := k g h2 h3
  have e := sz_1 h h5
  have c0 : co g 0 ≠ 0 := fun c => h4 (by rw [e, c, pC_zero])
  have e2 : pC h (co g 0)⁻¹ * g = 1 := by rw [e, co_C h, if_pos rfl, ← pC_mul, ← pC_one h]; congr 1; have := Lean.Grind.Field.mul_inv_cancel c0; grind
  exact ⟨pC h (co g 0)⁻¹ * u, pC h (co g 0)⁻¹ * v, by rw [h1] at e2; grind⟩
