/-! remainders of any ints and longs -/
theorem td_le {a b : Int} (hb : 0 < b) : (0 ≤ a → 0 ≤ a.tdiv b ∧ a.tdiv b ≤ a) ∧ (a < 0 → a ≤ a.tdiv b ∧ a.tdiv b ≤ 0) := by
  have h0 : ∀ x : Int, 0 ≤ x → 0 ≤ x.tdiv b ∧ x.tdiv b ≤ x := fun x hx => by
    rw [Int.tdiv_eq_ediv_of_nonneg hx]
    exact ⟨Int.ediv_nonneg hx (by omega), Int.ediv_le_self b hx⟩
  refine ⟨h0 a, fun h => ?_⟩
  have := h0 (-a) (by omega)
  rw [Int.neg_tdiv] at this; omega
theorem tm_sub (a b : Int) : a - a.tdiv b * b = a.tmod b := by rw [Int.tmod_def, Int.mul_comm]
theorem tm_bd {a b : Int} (hb : 0 < b) : (0 ≤ a → 0 ≤ a.tmod b ∧ a.tmod b < b ∧ a.tmod b = a % b) ∧ (a < 0 → -b < a.tmod b ∧ a.tmod b ≤ 0) := by
  refine ⟨fun h => ?_, fun h => ?_⟩
  · rw [Int.tmod_eq_emod_of_nonneg h]
    exact ⟨Int.emod_nonneg _ (by omega), Int.emod_lt_of_pos _ hb, rfl⟩
  · have h1 : (-a).tmod b = -(a.tmod b) := Int.neg_tmod _ _
    rw [Int.tmod_eq_emod_of_nonneg (by omega : 0 ≤ -a)] at h1
    have h2 := Int.emod_nonneg (-a) (by omega : b ≠ 0)
    have h3 := Int.emod_lt_of_pos (-a) hb
    omega
theorem lrem_toInt (l t : Int64) (ht : 0 < t.toInt) : (mi_lrem l t).toInt = l.toInt.tmod t.toInt := by
  have h1 := Int64.le_toInt l
  have h2 := Int64.toInt_lt l
  have h3 := td_le (a := l.toInt) ht
  have h4 := tm_bd (a := l.toInt) ht
  have h5 := Int64.toInt_lt t
  have h6 := tm_sub l.toInt t.toInt
  have e1 : (l / t).toInt = l.toInt.tdiv t.toInt := by
    rw [Int64.toInt_div, Int.bmod_eq_of_le]
    · rcases Int.lt_or_le l.toInt 0 with c | c
      · have := h3.2 c; omega
      · have := h3.1 c; omega
    · rcases Int.lt_or_le l.toInt 0 with c | c
      · have := h3.2 c; omega
      · have := h3.1 c; omega
  have e2 : (l / t * t).toInt = l.toInt.tdiv t.toInt * t.toInt := by
    rw [Int64.toInt_mul, e1, Int.bmod_eq_of_le]
    · rcases Int.lt_or_le l.toInt 0 with c | c
      · have := h4.2 c; omega
      · have := h4.1 c; have := h3.1 c
        have : 0 ≤ l.toInt.tdiv t.toInt * t.toInt := Int.mul_nonneg (by omega) (by omega)
        omega
    · rcases Int.lt_or_le l.toInt 0 with c | c
      · have := h4.2 c; have := h3.2 c
        have : l.toInt.tdiv t.toInt * t.toInt ≤ 0 := Int.mul_nonpos_of_nonpos_of_nonneg (by omega) (by omega)
        omega
      · have := h4.1 c; omega
  unfold mi_lrem
  rw [Int64.toInt_sub, e2, h6, Int.bmod_eq_of_le]
  · rcases Int.lt_or_le l.toInt 0 with c | c
    · have := h4.2 c; omega
    · have := h4.1 c; omega
  · rcases Int.lt_or_le l.toInt 0 with c | c
    · have := h4.2 c; omega
    · have := h4.1 c; omega
theorem rem32_toInt (l t : Int32) (ht : 0 < t.toInt) : (mi_rem l t).toInt = l.toInt.tmod t.toInt := by
  have h1 := Int32.le_toInt l
  have h2 := Int32.toInt_lt l
  have h3 := td_le (a := l.toInt) ht
  have h4 := tm_bd (a := l.toInt) ht
  have h5 := Int32.toInt_lt t
  have h6 := tm_sub l.toInt t.toInt
  have e1 : (l / t).toInt = l.toInt.tdiv t.toInt := by
    rw [Int32.toInt_div, Int.bmod_eq_of_le]
    · rcases Int.lt_or_le l.toInt 0 with c | c
      · have := h3.2 c; omega
      · have := h3.1 c; omega
    · rcases Int.lt_or_le l.toInt 0 with c | c
      · have := h3.2 c; omega
      · have := h3.1 c; omega
  have e2 : (l / t * t).toInt = l.toInt.tdiv t.toInt * t.toInt := by
    rw [Int32.toInt_mul, e1, Int.bmod_eq_of_le]
    · rcases Int.lt_or_le l.toInt 0 with c | c
      · have := h4.2 c; omega
      · have := h4.1 c; have := h3.1 c
        have : 0 ≤ l.toInt.tdiv t.toInt * t.toInt := Int.mul_nonneg (by omega) (by omega)
        omega
    · rcases Int.lt_or_le l.toInt 0 with c | c
      · have := h4.2 c; have := h3.2 c
        have : l.toInt.tdiv t.toInt * t.toInt ≤ 0 := Int.mul_nonpos_of_nonpos_of_nonneg (by omega) (by omega)
        omega
      · have := h4.1 c; omega
  unfold mi_rem
  rw [Int32.toInt_sub, e2, h6, Int.bmod_eq_of_le]
  · rcases Int.lt_or_le l.toInt 0 with c | c
    · have := h4.2 c; omega
    · have := h4.1 c; omega
  · rcases Int.lt_or_le l.toInt 0 with c | c
    · have := h4.2 c; omega
    · have := h4.1 c; omega
theorem i32_toNat {x : Int32} (h : 0 ≤ x.toInt) : x = nI x.toInt.toNat := by
  apply Int32.toInt_inj.mp
  rw [nI_toInt (by have := Int32.toInt_lt x; omega)]; omega
theorem nIl_toInt {P : Nat} (hP : P < 2 ^ 31) : (nI P).toInt64.toInt = (P : Int) := by rw [nI_l hP, lN_toInt hP]
/-- every long modulo P -/
theorem modA (N P : Nat) (h1 : 1 ≤ P) (hP : P ≤ 10007) (l : Int64) : ∃ x, x < P ∧ mX6_mod N (nI P) l = some (nI x) ∧ (x : Int) = l.toInt % (P : Int) := by
  have hp : 0 < (nI P).toInt64.toInt := by rw [nIl_toInt (by omega)]; omega
  have hr := lrem_toInt l (nI P).toInt64 hp
  rw [nIl_toInt (by omega)] at hr
  have hb := tm_bd (a := l.toInt) (b := (P : Int)) (by omega)
  have he1 := Int.emod_nonneg l.toInt (by omega : (P : Int) ≠ 0)
  have he2 := Int.emod_lt_of_pos l.toInt (by omega : (0 : Int) < P)
  have hlo : -(P : Int) < l.toInt.tmod P ∧ l.toInt.tmod P < P := by
    rcases Int.lt_or_le l.toInt 0 with c | c
    · have := hb.2 c; omega
    · have := hb.1 c; omega
  have hv : (mi_lrem l (nI P).toInt64).toInt32.toInt = l.toInt.tmod P := by
    rw [Int64.toInt_toInt32, hr, Int.bmod_eq_of_le (by omega) (by omega)]
  have hem : l.toInt.tmod P = l.toInt % P ∨ l.toInt.tmod P = l.toInt % P - P := by
    rw [Int.tmod_eq_emod]
    by_cases c : 0 ≤ l.toInt ∨ (P : Int) ∣ l.toInt
    · rw [if_pos c]; left; omega
    · rw [if_neg c]; right; rw [Int.natAbs_natCast]
  refine ⟨(l.toInt % P).toNat, by omega, ?_, by omega⟩
  dsimp only [mX6_mod, mi_let]
  rw [if_neg (nz_lI h1 hP)]
  by_cases c : 0 ≤ (mi_lrem l (nI P).toInt64).toInt32
  · rw [if_pos c]
    have c' : (0 : Int) ≤ (mi_lrem l (nI P).toInt64).toInt32.toInt := by have := Int32.le_iff_toInt_le.mp c; simpa using this
    rw [i32_toNat c', hv]
    rw [hv] at c'
    congr 2; omega
  · rw [if_neg c]
    have c' : (mi_lrem l (nI P).toInt64).toInt32.toInt < 0 := by
      refine Int.not_le.mp fun h => c (Int32.le_iff_toInt_le.mpr (by simpa using h))
    rw [hv] at c'
    congr 1
    apply Int32.toInt_inj.mp
    rw [Int32.toInt_add, hv, nI_toInt (by omega), nI_toInt (by omega), Int.bmod_eq_of_le (by omega) (by omega)]
    omega
/-- a product of any ints modulo P -/
theorem mulA (N P : Nat) (h1 : 1 ≤ P) (hP : P ≤ 10007) (u v : Int32) : ∃ x : Int32, mX6_mul N (nI P) u v = some x ∧ -(P : Int) < x.toInt ∧ x.toInt < P := by
  have hp : 0 < (nI P).toInt64.toInt := by rw [nIl_toInt (by omega)]; omega
  have hr := lrem_toInt (u.toInt64 * v.toInt64) (nI P).toInt64 hp
  rw [nIl_toInt (by omega)] at hr
  have hb := tm_bd (a := (u.toInt64 * v.toInt64).toInt) (b := (P : Int)) (by omega)
  have hlo : -(P : Int) < (u.toInt64 * v.toInt64).toInt.tmod P ∧ (u.toInt64 * v.toInt64).toInt.tmod P < P := by
    rcases Int.lt_or_le (u.toInt64 * v.toInt64).toInt 0 with c | c
    · have := hb.2 c; omega
    · have := hb.1 c; omega
  have hv : (mi_lrem (u.toInt64 * v.toInt64) (nI P).toInt64).toInt32.toInt = (u.toInt64 * v.toInt64).toInt.tmod P := by
    rw [Int64.toInt_toInt32, hr, Int.bmod_eq_of_le (by omega) (by omega)]
  dsimp only [mX6_mul, mi_let]
  rw [if_neg (nz_lI h1 hP)]
  exact ⟨_, rfl, by rw [hv]; exact hlo.1, by rw [hv]; exact hlo.2⟩
