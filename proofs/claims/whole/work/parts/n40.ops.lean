/-! the operations, side by side: first what both ask of a number and of a point -/
theorem fmodC (N : Nat) {P : Nat} (h1 : 1 ≤ P) (hP : P ≤ 10007) (x : Int32) : mJ9_floorMod_7cf53 N x (nI P) = some (nI (modF P x.toInt64)) := by
  have a := Int32.le_toInt x
  have b := Int32.toInt_lt x
  have := fmod_spec N (z := x.toInt) (n := P) (by omega) (by omega) (by omega) (by omega)
  rw [← zI_of x] at this
  rw [this]
  unfold modF
  rw [Int32.toInt_toInt64]
theorem cubicC (N : Nat) {P A B x : Nat} (h1 : 1 ≤ P) (hP : P ≤ 10007) (hA : A < P) (hB : B < P) (hx : x < P) : mX0_cubic N (nI P) (nI A) (nI B) (nI x) = some (nI (cub P A B x)) := by
  have h2 := mul_lt hx hx hP
  have h3 : (x * x + A) % P < P := Nat.mod_lt _ h1
  have h4 := mul_lt h3 hx hP
  unfold mX0_cubic
  dsimp only [mi_let]
  rw [if_neg (nz_nI h1 hP), if_neg (nz_nI h1 hP), pk_mul, nI_add, rem_nI (by omega) (by omega) (by omega), pk_mul, nI_add, rem_nI (by omega) (by omega) (by omega)]
  rfl
theorem rt_un {P : Nat} {g g' : Nat → Int32} (h : rootTab P g) (h' : rootTab P g') {v : Nat} (hv : v < P) : g v = g' v := by
  rcases h v hv with ⟨e, n⟩ | ⟨r, e, rp, rr, rl⟩
  · rcases h' v hv with ⟨e', n'⟩ | ⟨r', e', rp', rr', rl'⟩
    · rw [e, e']
    · exact absurd rr' (n r' rp')
  · rcases h' v hv with ⟨e', n'⟩ | ⟨r', e', rp', rr', rl'⟩
    · exact absurd rr (n' r rp)
    · rcases Nat.lt_trichotomy r r' with q | q | q
      · exact absurd rr (rl' r q)
      · rw [e, e', q]
      · exact absurd rr' (rl r' q)
theorem rt_C {P : Nat} (h5 : 5 ≤ P) (hP : P ≤ 10007) {g : Nat → Int32} (h : rootTab P g) : tabC (nI P) g := Or.inr ⟨P, rfl, h5, hP, h⟩
theorem xyOf (N : Nat) {m : Nat} (hm : m < 2 ^ 31) : mX5_xOf N (nI m) = some (nI (m / 16384)) ∧ mX5_yOf N (nI m) = some (nI (m % 16384)) := by
  unfold mX5_xOf mX5_yOf
  have a : (nI m >>> ((14 : Int32) &&& 31)).toInt = ((m / 16384 : Nat) : Int) := by rw [shr14, nI_toInt hm]; omega
  have b : (nI m &&& 16383).toInt = ((m % 16384 : Nat) : Int) := by rw [and14, nI_toInt hm]; omega
  refine ⟨?_, ?_⟩
  · rw [i32_toNat (x := nI m >>> ((14 : Int32) &&& 31)) (by rw [a]; omega), a]; rfl
  · rw [i32_toNat (x := nI m &&& 16383) (by rw [b]; omega), b]; rfl
/-- what is told is a point of the curve -/
def isPt (P A B : Nat) (u : Int32) : Prop := u = -1 ∨ ∃ x y, x < P ∧ y < P ∧ u = nI (16384 * x + y) ∧ y * y % P = cub P A B x
theorem isPt_nI {P A B m : Nat} (hP : P ≤ 10007) (hm : m < 2 ^ 31) : isPt P A B (nI m) ↔ m / 16384 < P ∧ m % 16384 < P ∧ (m % 16384) * (m % 16384) % P = cub P A B (m / 16384) := by
  constructor
  · rintro (e | ⟨x, y, hx, hy, e, k⟩)
    · have := congrArg Int32.toInt e
      rw [nI_toInt hm] at this
      have t : (-1 : Int32).toInt = -1 := by decide
      omega
    · have := (nI_eq hm (by omega)).mp e
      have e1 : m / 16384 = x := by omega
      have e2 : m % 16384 = y := by omega
      rw [e1, e2]; exact ⟨hx, hy, k⟩
  · rintro ⟨a, b, c⟩
    exact Or.inr ⟨_, _, a, b, by congr 1; omega, c⟩
theorem isPt_neg {P A B : Nat} {u : Int32} (hP : P ≤ 10007) (h : u.toInt < 0) (ne : u ≠ -1) : ¬ isPt P A B u := by
  rintro (e | ⟨x, y, hx, hy, e, k⟩)
  · exact ne e
  · rw [e, nI_toInt (by omega)] at h; omega
theorem holdsC (N : Nat) {P A B : Nat} (h1 : 1 ≤ P) (hP : P ≤ 10007) (hA : A < P) (hB : B < P) (u : Int32) : (isPt P A B u ∧ mX0_holds N (nI P) (nI A) (nI B) u = some 1) ∨ (¬ isPt P A B u ∧ mX0_holds N (nI P) (nI A) (nI B) u = some 0) := by
  unfold mX0_holds
  by_cases c0 : u = -1
  · left; rw [if_pos c0]; exact ⟨Or.inl c0, rfl⟩
  · rw [if_neg c0]
    by_cases c1 : u.toInt < 0
    · right
      refine ⟨isPt_neg hP c1 c0, ?_⟩
      unfold mX5_xOf mX5_yOf
      simp only [Option.bind_some]
      rcases belowC N (u >>> ((14 : Int32) &&& 31)) P hP with ⟨Y, ⟨hY, hY2⟩, -⟩ | ⟨-, e⟩
      · have := congrArg Int32.toInt hY
        rw [shr14, nI_toInt (by omega)] at this
        omega
      · rw [e]; simp only [Option.bind_some]; rw [if_pos trivial]
    · obtain ⟨m, hm, rfl⟩ : ∃ m, m < 2 ^ 31 ∧ u = nI m := ⟨u.toInt.toNat, by have := Int32.toInt_lt u; omega, i32_toNat (by omega)⟩
      have h31 : m / 16384 < 2 ^ 31 := by omega
      rw [isPt_nI hP hm, (xyOf N hm).1, (xyOf N hm).2]
      simp only [Option.bind_some]
      rcases belowC N (nI (m / 16384)) P hP with ⟨Y, ⟨hY, hY2⟩, e⟩ | ⟨ne, e⟩
      · have := (nI_eq h31 (by omega)).mp hY
        subst this
        rw [e]; simp only [Option.bind_some]; rw [if_neg (by decide)]
        by_cases c2 : m % 16384 < P
        · rw [if_neg (nI_ge c2 (by omega)), if_neg (nz_nI h1 hP)]
          dsimp only [mi_let]
          have := mul_lt c2 c2 hP
          rw [cubicC N h1 hP hA hB hY2, pk_mul, rem_nI (by omega) (by omega) (by omega)]
          simp only [Option.bind_some]
          have q1 : m % 16384 * (m % 16384) % P < P := Nat.mod_lt _ h1
          have q2 := cub_lt P A B (m / 16384) h1
          by_cases c3 : m % 16384 * (m % 16384) % P = cub P A B (m / 16384)
          · left; rw [if_pos (by rw [c3])]; exact ⟨⟨hY2, c2, c3⟩, rfl⟩
          · right; rw [if_neg (fun w => c3 ((nI_eq (by omega) (by omega)).mp w))]; exact ⟨fun w => c3 w.2.2, rfl⟩
        · right
          rw [if_pos (nI_le (by omega) (by omega))]
          exact ⟨fun w => c2 w.2.1, rfl⟩
      · right
        rw [e]; simp only [Option.bind_some]; rw [if_pos trivial]
        exact ⟨fun w => ne ⟨_, rfl, w.1⟩, rfl⟩
theorem isPtM (N : Nat) {P A B : Nat} (h1 : 1 ≤ P) (hP : P ≤ 10007) (hA : A < P) (hB : B < P) (u : Int32) : (isPt P A B u ∧ mX6_isPoint N (nI P) (nI A) (nI B) u = some 1) ∨ (¬ isPt P A B u ∧ mX6_isPoint N (nI P) (nI A) (nI B) u = some 0) := by
  unfold mX6_isPoint
  by_cases c0 : u = -1
  · left; rw [if_pos c0]; exact ⟨Or.inl c0, rfl⟩
  · rw [if_neg c0]
    by_cases c1 : u < 0
    · right
      rw [if_pos c1]
      exact ⟨isPt_neg hP (by have := Int32.lt_iff_toInt_lt.mp c1; rwa [show (0 : Int32).toInt = 0 by decide] at this) c0, rfl⟩
    · rw [if_neg c1]
      have c1' : ¬ u.toInt < 0 := fun w => c1 (Int32.lt_iff_toInt_lt.mpr (by rw [show (0 : Int32).toInt = 0 by decide]; exact w))
      obtain ⟨m, hm, rfl⟩ : ∃ m, m < 2 ^ 31 ∧ u = nI m := ⟨u.toInt.toNat, by have := Int32.toInt_lt u; omega, i32_toNat (by omega)⟩
      dsimp only [mi_let]
      rw [isPt_nI hP hm, show (16384 : Int32) = nI 16384 from rfl, n32_div hm (by omega) (by omega), rem_nI hm (by omega) (by omega)]
      by_cases c2 : m / 16384 < P
      · rw [if_neg (nI_ge c2 (by omega))]
        by_cases c3 : m % 16384 < P
        · rw [if_pos (nI_lt c3 (by omega))]
          have := mul_lt c3 c3 hP
          rw [mulM N P _ _ h1 hP (by omega) (by omega) (by omega), rightM N P A B _ h1 hP hA hB c2]
          simp only [Option.bind_some]
          have q1 : m % 16384 * (m % 16384) % P < P := Nat.mod_lt _ h1
          have q2 := cub_lt P A B (m / 16384) h1
          by_cases c4 : m % 16384 * (m % 16384) % P = cub P A B (m / 16384)
          · left; rw [if_pos (by rw [c4])]; exact ⟨⟨c2, c3, c4⟩, rfl⟩
          · right; rw [if_neg (fun w => c4 ((nI_eq (by omega) (by omega)).mp w))]; exact ⟨fun w => c4 w.2.2, rfl⟩
        · rw [if_neg (fun w => c3 ((nI_ltI (by omega) (by omega)).mp w))]
          right; exact ⟨fun w => c3 w.2.1, rfl⟩
      · rw [if_pos (nI_le (by omega) (by omega))]
        right; exact ⟨fun w => c2 w.1, rfl⟩
theorem isPt_pe {F : Type} [mFld F] {P A B : Nat} {φ : Int → F} (hc : CX F P A B φ) {u : Int32} (h : isPt P A B u) : ∃ U : EP (φ A) (φ B), pe P φ u U.1 := by
  rcases h with e | ⟨x, y, hx, hy, e, k⟩
  · exact ⟨ez, Or.inl ⟨e, rfl⟩⟩
  · exact ⟨⟨some (φ x, φ y), (pe_on hc.1 hc.2.2.2.1 hx hy).mpr k⟩, Or.inr ⟨x, y, hx, hy, e, rfl⟩⟩
theorem pe_isPt {F : Type} [mFld F] {P A B : Nat} {φ : Int → F} (hc : CX F P A B φ) {u : Int32} {U : EP (φ A) (φ B)} (h : pe P φ u U.1) : isPt P A B u := by
  rcases h with ⟨e, -⟩ | ⟨x, y, hx, hy, e, k⟩
  · exact Or.inl e
  · exact Or.inr ⟨x, y, hx, hy, e, (pe_on hc.1 hc.2.2.2.1 hx hy).mp (k ▸ U.2)⟩
theorem gf_disc {F : Type} [mFld F] {P : Nat} {φ : Int → F} (h : isGF F P φ) (A B : Nat) : φ ((disc P A B : Nat) : Int) = 4 * φ A * φ A * φ A + 27 * φ B * φ B := by
  unfold disc
  rw [gf_modN h, Int.natCast_add, Int.natCast_mul, Int.natCast_mul, hm_add h.1, hm_mul h.1, hm_mul h.1, gf_modN h, Int.natCast_mul, hm_mul h.1, gf_modN h, gf_modN h, Int.natCast_mul, Int.natCast_mul, hm_mul h.1, hm_mul h.1, gf_num h 4, gf_num h 27]
  grind
/-- a curve that isn't singular, over a field -/
theorem cx_ex {P A B : Nat} (hp : isp P) (h5 : 5 ≤ P) (hP : P ≤ 10007) (hA : A < P) (hB : B < P) (hd : disc P A B ≠ 0) : ∃ (F : Type) (_ : mFld F) (φ : Int → F), CX F P A B φ := by
  obtain ⟨F, i, φ, hF⟩ := gf_ex hp (by omega)
  refine ⟨F, i, φ, hF, hp, h5, hP, hA, hB, fun z => hd ?_⟩
  refine gf_nat hF (Nat.mod_lt _ (by omega)) (by omega) (b := 0) ?_
  rw [gf_disc hF, z]; exact (hm_zero hF.1).symm
theorem cx_disc {F : Type} [mFld F] {P A B : Nat} {φ : Int → F} (hF : isGF F P φ) (hp : isp P) (h5 : 5 ≤ P) (hP : P ≤ 10007) (hA : A < P) (hB : B < P) (hd : disc P A B ≠ 0) : CX F P A B φ := ⟨hF, hp, h5, hP, hA, hB, fun z => hd (gf_nat hF (Nat.mod_lt _ (by omega)) (by omega) (b := 0) (by rw [gf_disc hF, z]; exact (hm_zero hF.1).symm))⟩
theorem disc_cx {F : Type} [mFld F] {P A B : Nat} {φ : Int → F} (h : CX F P A B φ) : disc P A B ≠ 0 := fun z => h.2.2.2.2.2.2 (by rw [← gf_disc h.1, z]; exact hm_zero h.1.1)
