/-! the numbers modulo a prime, as a field -/
def isGF (F : Type) [mFld F] (P : Nat) (φ : Int → F) : Prop := isHom φ ∧ (∀ z : Int, φ z = 0 ↔ (P : Int) ∣ z) ∧ ∀ x : F, ∃ n : Nat, n < P ∧ x = φ n
theorem gf_ring (n : Nat) (z w : Int) : (Lean.Grind.Ring.intCast.intCast (z + w) : Fin (n + 1)) = Lean.Grind.Ring.intCast.intCast z + Lean.Grind.Ring.intCast.intCast w := Lean.Grind.Ring.intCast_add z w
theorem gf_ex {P : Nat} (hp : isp P) (h2 : 2 ≤ P) : ∃ (F : Type) (_ : mFld F) (φ : Int → F), isGF F P φ := by
  obtain ⟨n, rfl⟩ : ∃ n, P = n + 1 := ⟨P - 1, by omega⟩
  let φ : Int → Fin (n + 1) := fun z => Lean.Grind.Ring.intCast.intCast z
  have hφ : isHom φ := ⟨Lean.Grind.Ring.intCast_one, fun a b => Lean.Grind.Ring.intCast_add a b, fun a b => Lean.Grind.Ring.intCast_mul a b⟩
  have hk : ∀ z : Int, φ z = 0 ↔ ((n + 1 : Nat) : Int) ∣ z := fun z => by
    have := Lean.Grind.IsCharP.intCast_eq_zero_iff (α := Fin (n + 1)) (n + 1) z
    exact this.trans ⟨Int.dvd_of_emod_eq_zero, Int.emod_eq_zero_of_dvd⟩
  have hs : ∀ x : Fin (n + 1), ∃ k : Nat, k < n + 1 ∧ x = φ k := fun x => ⟨x.1, x.2, by
    have e : φ x.1 = Fin.ofNat (n + 1) x.1 := Lean.Grind.Ring.intCast_natCast x.1
    rw [e]; exact Fin.ext (Nat.mod_eq_of_lt x.2).symm⟩
  have inv : ∀ x : Fin (n + 1), x ≠ 0 → ∃ y, x * y = 1 := fun x x0 => by
    obtain ⟨k, hkn, rfl⟩ := hs x
    have nd : ¬ ((n + 1 : Nat) : Int) ∣ (k : Int) := fun d => x0 ((hk k).mpr d)
    have nd' : ¬ (n + 1) ∣ k := fun d => nd (Int.natCast_dvd_natCast.mpr d)
    obtain ⟨u, v, e⟩ := bez_int k (n + 1)
    rw [show Nat.gcd k (n + 1) = 1 from Nat.Coprime.symm (pr_cop hp h2 nd')] at e
    refine ⟨φ u, ?_⟩
    have e2 := congrArg φ e
    have p0 : φ ((n + 1 : Nat) : Int) = 0 := (hk _).mpr (Int.dvd_refl _)
    rw [hm_add hφ, hm_mul hφ, hm_mul hφ, p0] at e2
    have e3 : φ ((1 : Nat) : Int) = 1 := hm_one hφ
    rw [e3] at e2
    rw [← e2]; grind
  let iv : Fin (n + 1) → Fin (n + 1) := fun x => @dite (Fin (n + 1)) (x ≠ 0) (Classical.propDecidable _) (fun h => Classical.choose (inv x h)) (fun _ => 0)
  refine ⟨Fin (n + 1), mk_field inferInstance iv ?_ ?_ ?_, φ, hφ, hk, hs⟩
  · intro e
    have := (hk 1).mp ((hm_one hφ).trans e.symm)
    have := Int.le_of_dvd (by omega) this
    omega
  · exact dif_neg (fun h => h rfl)
  · intro x hx
    show x * iv x = 1
    have : iv x = Classical.choose (inv x hx) := dif_pos hx
    rw [this]; exact Classical.choose_spec (inv x hx)
theorem gf_eq {F : Type} [mFld F] {P : Nat} {φ : Int → F} (h : isGF F P φ) (a b : Int) : φ a = φ b ↔ (P : Int) ∣ a - b := by
  rw [← h.2.1, hm_sub h.1]
  exact ⟨fun e => by rw [e]; grind, fun e => by grind⟩
theorem gf_nat {F : Type} [mFld F] {P : Nat} {φ : Int → F} (h : isGF F P φ) {a b : Nat} (ha : a < P) (hb : b < P) (e : φ a = φ b) : a = b := by
  have d := (gf_eq h a b).mp e
  have := Int.emod_emod_of_dvd
  have e1 : ((a : Int) - b) % P = 0 := Int.emod_eq_zero_of_dvd d
  by_cases k : a ≤ b
  · have : ((b : Int) - a) % P = 0 := by
      have d2 : (P : Int) ∣ (b : Int) - a := by have := Int.dvd_neg.mpr d; rwa [Int.neg_sub] at this
      exact Int.emod_eq_zero_of_dvd d2
    rw [Int.emod_eq_of_lt (by omega) (by omega)] at this
    omega
  · rw [Int.emod_eq_of_lt (by omega) (by omega)] at e1
    omega
theorem gf_mod {F : Type} [mFld F] {P : Nat} {φ : Int → F} (h : isGF F P φ) (a : Int) : φ (a % (P : Int)) = φ a := (gf_eq h _ _).mpr ⟨-(a / P), by rw [Int.emod_def]; grind⟩
theorem gf_modN {F : Type} [mFld F] {P : Nat} {φ : Int → F} (h : isGF F P φ) (a : Nat) : φ ((a % P : Nat) : Int) = φ a := by rw [Int.natCast_emod]; exact gf_mod h a
theorem gf_num {F : Type} [mFld F] {P : Nat} {φ : Int → F} (h : isGF F P φ) (n : Nat) : φ (n : Int) = OfNat.ofNat (α := F) n := by
  induction n with
  | zero => exact hm_zero h.1
  | succ n ih => rw [Lean.Grind.Semiring.ofNat_succ (α := F) n, ← ih, ← hm_one h.1, ← hm_add h.1]; rfl
theorem gf_fp {F : Type} [mFld F] {P : Nat} {φ : Int → F} (h : isGF F P φ) (hp : isp P) (h2 : 2 ≤ P) : isFp F P ((List.range P).map (fun n : Nat => φ n)) := by
  refine ⟨?_, fun x => ?_, by rw [List.length_map, List.length_range], fun x => ?_⟩
  · unfold List.Nodup
    rw [List.pairwise_map]
    exact List.Pairwise.imp_of_mem (fun ha hb hne z => hne (gf_nat h (List.mem_range.mp ha) (List.mem_range.mp hb) z)) List.nodup_range
  · obtain ⟨n, hn, rfl⟩ := h.2.2 x
    exact List.mem_map.mpr ⟨n, List.mem_range.mpr hn, rfl⟩
  · obtain ⟨n, hn, rfl⟩ := h.2.2 x
    rw [← hm_pow h.1]
    have := pr_fermat hp h2 n
    exact (gf_eq h _ _).mpr this
theorem gf_ch {F : Type} [mFld F] {P : Nat} {φ : Int → F} (h : isGF F P φ) : (∀ m, 0 < m → m < P → OfNat.ofNat (α := F) m ≠ 0) ∧ OfNat.ofNat (α := F) P = 0 := by
  refine ⟨fun m m0 mP z => ?_, ?_⟩
  · rw [← gf_num h] at z
    have := Int.natCast_dvd_natCast.mp ((h.2.1 _).mp z)
    have := Nat.le_of_dvd m0 this
    omega
  · rw [← gf_num h]; exact (h.2.1 _).mpr (Int.dvd_refl _)
theorem prm_isp {P : Nat} (hp : isp P) (h2 : 2 ≤ P) : prm P := ⟨h2, fun d hd => pr_div hp h2 hd⟩
theorem isp_prm {P : Nat} (h : prm P) : isp P := fun d h2 hd hm => by
  rcases h.2 d (Nat.dvd_of_mod_eq_zero hm) with z | z
  · omega
  · have := Nat.mul_le_mul_right d h2
    have := h.1
    subst z
    omega
/-- points as they are told -/
def pe {F : Type} [mFld F] (P : Nat) (φ : Int → F) (u : Int32) (W : Pt F) : Prop := (u = -1 ∧ W = none) ∨ ∃ x y : Nat, x < P ∧ y < P ∧ u = nI (16384 * x + y) ∧ W = some (φ x, φ y)
theorem pe_un {F : Type} [mFld F] {P : Nat} {φ : Int → F} (hP : P ≤ 10007) {u : Int32} {W W' : Pt F} (h : pe P φ u W) (h' : pe P φ u W') : W = W' := by
  have ne : ∀ x y : Nat, x < P → y < P → nI (16384 * x + y) ≠ -1 := fun x y hx hy e => by
    have := congrArg Int32.toInt e
    rw [nI_toInt (by omega)] at this
    have e2 : (-1 : Int32).toInt = -1 := by decide
    rw [e2] at this; omega
  rcases h with ⟨e1, rfl⟩ | ⟨x, y, hx, hy, e1, rfl⟩
  · rcases h' with ⟨e2, rfl⟩ | ⟨x', y', hx', hy', e2, rfl⟩
    · rfl
    · exact absurd (e2.symm.trans e1) (ne x' y' hx' hy')
  · rcases h' with ⟨e2, rfl⟩ | ⟨x', y', hx', hy', e2, rfl⟩
    · exact absurd (e1.symm.trans e2) (ne x y hx hy)
    · have := (nI_eq (by omega) (by omega)).mp (e1.symm.trans e2)
      have h1 : x = x' := by omega
      have h2 : y = y' := by omega
      rw [h1, h2]
theorem pe_inj {F : Type} [mFld F] {P : Nat} {φ : Int → F} (h : isGF F P φ) {u u' : Int32} {W : Pt F} (k : pe P φ u W) (k' : pe P φ u' W) : u = u' := by
  rcases k with ⟨e1, rfl⟩ | ⟨x, y, hx, hy, e1, rfl⟩
  · rcases k' with ⟨e2, -⟩ | ⟨x', y', hx', hy', e2, e3⟩
    · rw [e1, e2]
    · exact absurd e3 (by simp)
  · rcases k' with ⟨e2, e3⟩ | ⟨x', y', hx', hy', e2, e3⟩
    · exact absurd e3 (by simp)
    · have e4 := Option.some.inj e3
      have h1 := gf_nat h hx hx' (congrArg Prod.fst e4)
      have h2 := gf_nat h hy hy' (congrArg Prod.snd e4)
      rw [e1, e2, h1, h2]
theorem pe_none {F : Type} [mFld F] {P : Nat} {φ : Int → F} (hP : P ≤ 10007) {u : Int32} {W : Pt F} (k : pe P φ u W) : u = -1 ↔ W = none := by
  constructor
  · intro e
    exact pe_un hP k (Or.inl ⟨e, rfl⟩)
  · rintro rfl
    rcases k with ⟨e1, -⟩ | ⟨x, y, hx, hy, e1, e2⟩
    · exact e1
    · exact absurd e2 (by simp)
theorem pe_ex {F : Type} [mFld F] {P : Nat} {φ : Int → F} (h : isGF F P φ) (W : Pt F) : ∃ u, pe P φ u W := by
  cases W with
  | none => exact ⟨-1, Or.inl ⟨rfl, rfl⟩⟩
  | some W =>
    obtain ⟨x, hx, ex⟩ := h.2.2 W.1
    obtain ⟨y, hy, ey⟩ := h.2.2 W.2
    exact ⟨nI (16384 * x + y), Or.inr ⟨x, y, hx, hy, rfl, by rw [← ex, ← ey]⟩⟩
theorem pe_isP {F : Type} [mFld F] {P : Nat} {φ : Int → F} {u : Int32} {W : Pt F} (k : pe P φ u W) : isP P u := by
  rcases k with ⟨e1, -⟩ | ⟨x, y, hx, hy, e1, -⟩
  · exact Or.inl e1
  · exact Or.inr ⟨x, y, hx, hy, e1⟩
theorem gf_cub {F : Type} [mFld F] {P : Nat} {φ : Int → F} (h : isGF F P φ) (A B x : Nat) : φ ((cub P A B x : Nat) : Int) = cb (φ A) (φ B) (φ x) := by
  unfold cub cb
  rw [gf_modN h]
  have e : (((x * x + A) % P * x + B : Nat) : Int) = ((x * x + A) % P : Nat) * (x : Int) + B := by rw [Int.natCast_add, Int.natCast_mul]
  rw [e, hm_add h.1, hm_mul h.1, gf_modN h, Int.natCast_add, Int.natCast_mul, hm_add h.1, hm_mul h.1]; grind
theorem pe_on {F : Type} [mFld F] {P : Nat} {φ : Int → F} (h : isGF F P φ) (hP : P ≤ 10007) {A B x y : Nat} (hx : x < P) (hy : y < P) : onE (φ A) (φ B) (some (φ x, φ y)) ↔ y * y % P = cub P A B x := by
  have P0 : 0 < P := by omega
  have e1 : onE (φ A) (φ B) (some (φ x, φ y)) ↔ φ y * φ y = cb (φ A) (φ B) (φ x) := Iff.rfl
  rw [e1, ← gf_cub h]
  have e2 : φ y * φ y = φ ((y * y % P : Nat) : Int) := by rw [gf_modN h, Int.natCast_mul, hm_mul h.1]
  rw [e2]
  exact ⟨fun e => gf_nat h (Nat.mod_lt _ P0) (cub_lt P A B x P0) e, fun e => by rw [e]⟩
