/-! the first point with a property that a point shares with its opposite -/
def hsT {F : Type} [mFld F] {P A B : Nat} {φ : Int → F} (_ : CX F P A B φ) (T : EP (φ A) (φ B) → Prop) (x : Nat) : Prop := ∀ (x' : Nat) (V : EP (φ A) (φ B)) (Y : F), x' < x → V.1 = some (φ x', Y) → ¬ T V
def fstP {F : Type} [mFld F] {P A B : Nat} {φ : Int → F} (hc : CX F P A B φ) (T : EP (φ A) (φ B) → Prop) (u : Int32) : Prop := (u = -1 ∧ ∀ V, V ≠ ez → ¬ T V) ∨ ∃ (x r : Nat) (U : EP (φ A) (φ B)), x < P ∧ isR P (cub P A B x) r ∧ u = nI (16384 * x + r) ∧ pe P φ u U.1 ∧ T U ∧ hsT hc T x
theorem pe_at {F : Type} [mFld F] {P : Nat} {φ : Int → F} (hP : P ≤ 10007) {x y : Nat} (hx : x < P) (hy : y < P) {W : Pt F} (h : pe P φ (nI (16384 * x + y)) W) : W = some (φ x, φ y) := pe_un hP h (Or.inr ⟨x, y, hx, hy, rfl, rfl⟩)
theorem fstP_un {F : Type} [mFld F] {P A B : Nat} {φ : Int → F} (hc : CX F P A B φ) {T : EP (φ A) (φ B) → Prop} {u v : Int32} (h : fstP hc T u) (k : fstP hc T v) : u = v := by
  have hP := hc.2.2.2.1
  have ne : ∀ {x r : Nat} {U : EP (φ A) (φ B)}, x < P → r < P → pe P φ (nI (16384 * x + r)) U.1 → U ≠ ez := fun hx hr p z => by
    have := pe_at hP hx hr p
    rw [z] at this; cases this
  rcases h with ⟨e, h⟩ | ⟨x, r, U, hx, hr, e, p, t, s⟩
  · rcases k with ⟨e', k⟩ | ⟨x', r', U', hx', hr', e', p', t', s'⟩
    · rw [e, e']
    · rw [e'] at p'; exact absurd t' (h U' (ne hx' hr'.1 p'))
  · rw [e] at p
    rcases k with ⟨e', k⟩ | ⟨x', r', U', hx', hr', e', p', t', s'⟩
    · exact absurd t (k U (ne hx hr.1 p))
    · rw [e'] at p'
      have q1 := pe_at hP hx hr.1 p
      have q2 := pe_at hP hx' hr'.1 p'
      rcases Nat.lt_trichotomy x x' with z | z | z
      · exact absurd t (s' x U _ z q1)
      · subst z
        rw [e, e', isR_un hr hr']
      · exact absurd t' (s x' U' _ z q2)
theorem hs_none {F : Type} [mFld F] {P A B : Nat} {φ : Int → F} (hc : CX F P A B φ) {T : EP (φ A) (φ B) → Prop} {x : Nat} (hx : x < P) (h : hsT hc T x) (no : ∀ r, r < P → ¬ r * r % P = cub P A B x) : hsT hc T (x + 1) := fun x' V Y hx' hV => by
  by_cases xx : x' = x
  · subst xx
    obtain ⟨y, hy, -, hy2⟩ := over_x hc hx hV
    exact absurd hy2 (no y hy)
  · exact h x' V Y (by omega) hV
theorem hs_step {F : Type} [mFld F] {P A B : Nat} {φ : Int → F} (hc : CX F P A B φ) {T : EP (φ A) (φ B) → Prop} (sym : ∀ V, T (en V) → T V) {x r : Nat} (hx : x < P) (hr : isR P (cub P A B x) r) {R : EP (φ A) (φ B)} (pR : pe P φ (nI (16384 * x + r)) R.1) (h : hsT hc T x) (n : ¬ T R) : hsT hc T (x + 1) := fun x' V Y hx' hV t => by
  by_cases xx : x' = x
  · subst xx
    rcases lesser_pm hc hx hr pR hV with e | e
    · rw [e] at t; exact n t
    · rw [e] at t; exact n (sym _ t)
  · exact h x' V Y (by omega) hV t
theorem hs_end {F : Type} [mFld F] {P A B : Nat} {φ : Int → F} (hc : CX F P A B φ) {T : EP (φ A) (φ B) → Prop} (h : hsT hc T P) : fstP hc T (-1) := Or.inl ⟨rfl, fun V ne t => by
  rcases hV : V.1 with _ | ⟨X, Y⟩
  · exact ne (Subtype.ext hV)
  · obtain ⟨x', hx', e⟩ := hc.1.2.2 X
    exact h x' V Y hx' (by rw [hV, e]) t⟩
theorem blk2 {P A B : Nat} (h1 : 1 ≤ P) {t q : Nat → Int32} (hL : LK P A B P t q) : ∀ x, x ≤ P → ∀ j, 1 ≤ j → j < cnt P A B x → ∃ x' r, x' < x ∧ isR P (cub P A B x') r ∧ j < cnt P A B (x' + 1) ∧ ((j = cnt P A B x' ∧ t j = nI (16384 * x' + r)) ∨ (0 < r ∧ j = cnt P A B x' + 1 ∧ t j = nI (16384 * x' + (P - r)) ∧ t (cnt P A B x') = nI (16384 * x' + r)))
  | 0, _, j, j1, hj => absurd hj (by show ¬ j < 1; omega)
  | x + 1, hx, j, j1, hj => by
    by_cases k : j < cnt P A B x
    · obtain ⟨x', r, a, b, c⟩ := blk2 h1 hL x (by omega) j j1 k
      exact ⟨x', r, by omega, b, c⟩
    · have hj' : j < cnt P A B x + wt P (cub P A B x) := hj
      obtain ⟨r, hr⟩ := wt_root (P := P) (A := A) (B := B) (x := x) h1 (by omega)
      have Lx := (hL.2 x (by omega)).2 r hr
      refine ⟨x, r, by omega, hr, hj, ?_⟩
      by_cases e : j = cnt P A B x
      · left; rw [e]; exact ⟨rfl, Lx.1⟩
      · right
        rcases wt_of_isR hr h1 with ⟨-, w⟩ | ⟨r0, w⟩
        · omega
        · have rP := hr.1
          have j1 : j = cnt P A B x + 1 := by omega
          refine ⟨r0, j1, ?_, Lx.1⟩
          rw [j1, Lx.2 r0]; congr 1; omega
theorem fpR0 {F : Type} [mFld F] {P A B : Nat} {φ : Int → F} (hc : CX F P A B φ) {W : Nat → EP (φ A) (φ B)} (al : isAll ((List.range (cnt P A B P)).map W)) (W0 : W 0 = ez) {T : EP (φ A) (φ B) → Prop} (no : ∀ i, 1 ≤ i → i < cnt P A B P → ¬ T (W i)) : fstP hc T (-1) := Or.inl ⟨rfl, fun V ne t => by
  obtain ⟨i, hi, e⟩ := List.mem_map.mp (al.2 V)
  have hi := List.mem_range.mp hi
  refine no i ?_ hi (by rw [e]; exact t)
  rcases Nat.eq_zero_or_pos i with z | z
  · rw [z, W0] at e; exact absurd e.symm ne
  · exact z⟩
theorem fpR {F : Type} [mFld F] {P A B : Nat} {φ : Int → F} (hc : CX F P A B φ) {pts ah : Nat → Int32} (hL : LK P A B P pts ah) {W : Nat → EP (φ A) (φ B)} (hW : ∀ j, j < cnt P A B P → pe P φ (pts j) (W j).1) (al : isAll ((List.range (cnt P A B P)).map W)) (W0 : W 0 = ez) {T : EP (φ A) (φ B) → Prop} (sym : ∀ V, T (en V) → T V) {j : Nat} (j1 : 1 ≤ j) (hj : j < cnt P A B P) (tj : T (W j)) (no : ∀ i, 1 ≤ i → i < j → ¬ T (W i)) : fstP hc T (pts j) := by
  have hc0 := hc
  obtain ⟨hF, hp, h5, hP, hA, hB, -⟩ := hc0
  obtain ⟨x, r, hx, hr, jb, z⟩ := blk2 (by omega) hL P (Nat.le_refl _) j j1 hj
  have rP := hr.1
  have c1 := cnt_pos P A B x
  rcases z with ⟨ej, pj⟩ | ⟨r0, ej, pj, pl⟩
  · refine Or.inr ⟨x, r, W j, hx, hr, pj, hW j hj, tj, fun x' V Y hx' hV t => ?_⟩
    obtain ⟨i, hi, eV⟩ := List.mem_map.mp (al.2 V)
    have hi := List.mem_range.mp hi
    have i1 : 1 ≤ i := by
      rcases Nat.eq_zero_or_pos i with z | z
      · rw [z, W0] at eV
        rw [← eV] at hV; cases hV
      · exact z
    obtain ⟨x2, r2, hx2, hr2, ib, z2⟩ := blk2 (by omega) hL P (Nat.le_refl _) i i1 hi
    have pi := hW i hi
    have x22 : x2 = x' := by
      have r2P := hr2.1
      have e1 : ∃ y, (W i).1 = some (φ x2, φ (y : Nat)) := by
        rcases z2 with ⟨-, p⟩ | ⟨q0, -, p, -⟩
        · rw [p] at pi; exact ⟨_, pe_at hP hx2 hr2.1 pi⟩
        · rw [p] at pi; exact ⟨_, pe_at hP hx2 (by omega) pi⟩
      obtain ⟨y, e1⟩ := e1
      rw [eV, hV] at e1
      have := congrArg Prod.fst (Option.some.inj e1)
      exact (gf_nat hF (by omega) hx2 this).symm
    subst x22
    refine no i i1 ?_ (by rw [eV]; exact t)
    have := cnt_mono P A B (k := x2 + 1) (l := x) hx'
    omega
  · exfalso
    have pc := hW (cnt P A B x) (by omega)
    rw [pl] at pc
    have pj' := hW j hj
    rw [pj] at pj'
    have eV := pe_at hP hx (by omega) pj'
    refine no (cnt P A B x) c1 (by omega) ?_
    rcases lesser_pm hc hx hr pc eV with e | e
    · rw [← e]; exact tj
    · rw [e] at tj; exact sym _ tj
