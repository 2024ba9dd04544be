/-! whole numbers in an int -/
def zI (z : Int) : Int32 := Int32.ofInt z
theorem nI_zI (n : Nat) : nI n = zI n := rfl
theorem zI_mul (a b : Int) : zI a * zI b = zI (a * b) := (Int32.ofInt_mul a b).symm
theorem zI_sub (a b : Int) : zI a - zI b = zI (a - b) := (Int32.ofInt_sub a b).symm
theorem zI_add (a b : Int) : zI a + zI b = zI (a + b) := (Int32.ofInt_add a b).symm
theorem zI_toInt {z : Int} (h1 : -2147483648 ≤ z) (h2 : z < 2147483648) : (zI z).toInt = z := by
  exact Int32.toInt_ofInt_of_le (by omega) (by omega)
theorem zI_of (x : Int32) : x = zI x.toInt := (Int32.ofInt_toInt x).symm
theorem zI_0 : zI 0 = 0 := rfl
theorem zI_eq {a b : Int} (a1 : -2147483648 ≤ a) (a2 : a < 2147483648) (b1 : -2147483648 ≤ b) (b2 : b < 2147483648) : zI a = zI b ↔ a = b :=
  ⟨fun e => by have := congrArg Int32.toInt e; rwa [zI_toInt a1 a2, zI_toInt b1 b2] at this, fun e => by rw [e]⟩
theorem zI_le {a b : Int} (a1 : -2147483648 ≤ a) (a2 : a < 2147483648) (b1 : -2147483648 ≤ b) (b2 : b < 2147483648) : zI a ≤ zI b ↔ a ≤ b := by
  rw [Int32.le_iff_toInt_le, zI_toInt a1 a2, zI_toInt b1 b2]
theorem zI_lt {a b : Int} (a1 : -2147483648 ≤ a) (a2 : a < 2147483648) (b1 : -2147483648 ≤ b) (b2 : b < 2147483648) : zI a < zI b ↔ a < b := by
  rw [Int32.lt_iff_toInt_lt, zI_toInt a1 a2, zI_toInt b1 b2]
/-- a rest by a number that isn't negative -/
theorem rem_zI {z : Int} {P : Nat} (h1 : 1 ≤ P) (hP : P < 2147483648) (z1 : -2147483648 ≤ z) (z2 : z < 2147483648) : ∃ r : Int, mi_rem (zI z) (nI P) = zI r ∧ -(P : Int) < r ∧ r < P ∧ (P : Int) ∣ z - r ∧ (0 ≤ z → 0 ≤ r) := by
  have h := rem32_toInt (zI z) (nI P) (by rw [nI_toInt (by omega)]; omega)
  rw [zI_toInt z1 z2, nI_toInt (by omega)] at h
  have hb := tm_bd (a := z) (b := (P : Int)) (by omega)
  refine ⟨z.tmod P, by rw [zI_of (mi_rem _ _), h], ?_, ?_, ?_, fun q => (hb.1 q).1⟩
  · rcases Int.lt_or_le z 0 with c | c
    · exact (hb.2 c).1
    · have := (hb.1 c).1; omega
  · rcases Int.lt_or_le z 0 with c | c
    · have := (hb.2 c).2; omega
    · exact (hb.1 c).2.1
  · exact ⟨z.tdiv P, by have := Int.tmod_add_mul_tdiv z P; omega⟩
theorem rem_pos {z : Int} {P : Nat} (h1 : 1 ≤ P) (hP : P < 2147483648) (z1 : 0 ≤ z) (z2 : z < 2147483648) : ∃ r : Nat, mi_rem (zI z) (nI P) = nI r ∧ r < P ∧ (P : Int) ∣ z - r := by
  obtain ⟨r, e, -, h2, d, h0⟩ := rem_zI h1 hP (by omega) z2
  have := h0 z1
  exact ⟨r.toNat, by rw [e, nI_zI, Int.toNat_of_nonneg this], by omega, by rw [Int.toNat_of_nonneg this]; exact d⟩
/-! the inverse, by Euclid's way -/
theorem inv_spec (N : Nat) (hN : 20000 ≤ N) {n v : Nat} (hn : n ≤ 20000) (v0 : 0 < v) (vn : v < n) (cp : Nat.Coprime v n) : ∃ r, r < n ∧ mX4_inverted N (nI v) (nI n) = some (nI r) ∧ (n : Int) ∣ (v : Int) * r - 1 := by
  have nv : n * v < 400000000 := by
    have : n * v ≤ 20000 * 19999 := Nat.mul_le_mul hn (by omega)
    omega
  -- big, small, and the two numbers with their signs
  let I : Int32 × Int32 × Int32 × Int32 × Int32 → Prop := fun s => ∃ (b m t b' l' : Nat) (sg : Int), s = (nI b, nI m, zI (- sg * b'), zI (sg * l'), nI t) ∧ (sg = 1 ∨ sg = -1) ∧ m < b ∧ b ≤ n ∧ b * l' + m * b' = n ∧ Nat.gcd b m = 1 ∧ 0 < m ∧ b * m * 2 ^ t ≤ n * v ∧ (n : Int) ∣ (v : Int) * (sg * l') - m ∧ (n : Int) ∣ (v : Int) * (- sg * b') - b
  let Q : Int32 × Int32 × Int32 × Int32 × Int32 → Prop := fun s => ∃ (l' : Nat) (sg : Int), s.2.2.2.1 = zI (sg * l') ∧ (sg = 1 ∨ sg = -1) ∧ l' < n ∧ (n : Int) ∣ (v : Int) * (sg * l') - 1
  obtain ⟨o, ho, l', sg, e1, hsg, hl, d⟩ := mi_run_ok (mX4_inverted_b13 N) I Q (fun s => 64 - s.2.2.2.2.toNatClampNeg) (by
    rintro s ⟨b, m, t, b', l', sg, rfl, hsg, mb, bn, hid, hg, m0, hpw, d1, d2⟩
    have t29 : t ≤ 29 := by
      refine Nat.le_of_not_lt (fun z => ?_)
      have p1 : 2 ^ 30 ≤ 2 ^ t := Nat.pow_le_pow_right (by omega) (by omega)
      have p2 : 1 ≤ b * m := Nat.mul_pos (by omega) m0
      have := Nat.mul_le_mul p2 p1
      omega
    have lb : l' ≤ n := by
      have : 1 * l' ≤ b * l' := Nat.mul_le_mul_right l' (by omega)
      omega
    have bb : b' ≤ n := by
      have : 1 * b' ≤ m * b' := Nat.mul_le_mul_right b' m0
      omega
    dsimp only [mX4_inverted_b13, mi_let]
    rw [if_neg (show ¬ (64 : Int32) ≤ nI t from fun z => by
      have := (nI_leI (a := 64) (b := t) (by omega) (by omega)).mp z; omega)]
    by_cases m1 : m ≤ 1
    · right
      rw [if_pos (show nI m ≤ 1 from nI_le (a := m) (b := 1) m1 (by omega))]
      have me : m = 1 := by omega
      refine ⟨_, rfl, l', sg, rfl, hsg, ?_, by rw [me] at d1; exact d1⟩
      have : 2 * l' ≤ b * l' := Nat.mul_le_mul_right l' (by omega)
      omega
    · left
      rw [if_neg (show ¬ nI m ≤ 1 from fun z => by have := (nI_leI (a := m) (b := 1) (by omega) (by omega)).mp z; omega), if_neg (nI_ne0 m0 (by omega)), n32_div (by omega) m0 (by omega)]
      have dm := Nat.div_add_mod b m
      have ml := Nat.mod_lt b m0
      have r0 : 0 < b % m := Nat.pos_of_ne_zero (fun z => by
        have : m ∣ b := Nat.dvd_of_mod_eq_zero z
        have g := Nat.gcd_eq_right this
        omega)
      refine ⟨_, rfl, ⟨m, b % m, t + 1, l', b' + b / m * l', - sg, ?_, by rcases hsg with z | z <;> rw [z] <;> simp, ml, by omega, ?_, ?_, r0, ?_, ?_, ?_⟩, ?_⟩
      · have a1 : nI b - nI (b / m) * nI m = nI (b % m) := by
          rw [nI_zI, nI_zI, nI_zI, nI_zI, zI_mul, zI_sub]
          congr 1
          have : ((m * (b / m) + b % m : Nat) : Int) = b := by rw [dm]
          rw [Int.natCast_add, Int.natCast_mul] at this
          generalize ((b / m : Nat) : Int) = q at *
          generalize ((b % m : Nat) : Int) = r at *
          grind
        have a2 : zI (- sg * b') - nI (b / m) * zI (sg * l') = zI (- sg * ((b' + b / m * l' : Nat) : Int)) := by
          rw [nI_zI, zI_mul, zI_sub]
          congr 1
          rw [Int.natCast_add, Int.natCast_mul]
          generalize ((b / m : Nat) : Int) = q at *
          grind
        rw [a1, a2, nI_1]
        congr 3
        rw [show - -sg * (l' : Int) = sg * l' by grind]
      · have : m * (b' + b / m * l') + b % m * l' = (m * (b / m) + b % m) * l' + m * b' := by grind
        rw [this, dm]; exact hid
      · rw [Nat.gcd_comm, ← Nat.gcd_rec, Nat.gcd_comm]; exact hg
      · -- the product falls by half
        have h2 : 2 * (b % m) ≤ b := by
          have : 1 ≤ b / m := Nat.div_pos (by omega) m0
          have := Nat.mul_le_mul_left m this
          omega
        have : m * (b % m) * 2 ^ (t + 1) = m * (2 * (b % m)) * 2 ^ t := by rw [Nat.pow_succ]; grind
        rw [this]
        refine Nat.le_trans (Nat.mul_le_mul_right _ (Nat.mul_le_mul_left m h2)) ?_
        rw [Nat.mul_comm m b]; exact hpw
      · obtain ⟨k1, h1⟩ := d1
        obtain ⟨k2, h2⟩ := d2
        refine ⟨k2 - (b / m : Nat) * k1, ?_⟩
        rw [Int.natCast_add, Int.natCast_mul]
        have : ((m * (b / m) + b % m : Nat) : Int) = b := by rw [dm]
        rw [Int.natCast_add, Int.natCast_mul] at this
        generalize ((b / m : Nat) : Int) = q at *
        generalize ((b % m : Nat) : Int) = r at *
        grind
      · obtain ⟨k1, h1⟩ := d1
        exact ⟨k1, by grind⟩
      · show 64 - (nI t + 1).toNatClampNeg < 64 - (nI t).toNatClampNeg
        rw [nI_1, nI_clamp (by omega), nI_clamp (by omega)]; omega) N (nI n, nI v, 0, 1, 0) ⟨n, v, 0, 0, 1, 1, by simp [nI_zI, zI], Or.inl rfl, vn, Nat.le_refl n, by omega, by rw [Nat.gcd_comm]; exact cp, v0, by omega, ⟨0, by simp⟩, ⟨-1, by simp⟩⟩ (by
    show 64 - (0 : Int32).toNatClampNeg < N
    omega)
  unfold mX4_inverted
  rw [ho]
  obtain ⟨o1, o2, o3, o4, o5⟩ := o
  have e1' : o4 = zI (sg * l') := e1
  subst e1'
  show ∃ r, r < n ∧ (if 0 ≤ zI (sg * l') then some (zI (sg * l')) else some (zI (sg * l') + nI n)) = some (nI r) ∧ _
  rcases hsg with z | z
  · subst z
    refine ⟨l', hl, ?_, by rw [show (1 : Int) * l' = l' by omega] at d; exact d⟩
    rw [show (1 : Int) * l' = l' by omega, if_pos (show (0 : Int32) ≤ zI l' from nI_pos' (n := l') (by omega))]; rfl
  · subst z
    by_cases l0 : l' = 0
    · subst l0
      exfalso
      have d' : (n : Int) ∣ -1 := by simpa using d
      have := Int.le_of_dvd (by omega) (Int.dvd_neg.mpr d')
      omega
    · refine ⟨n - l', by omega, ?_, ?_⟩
      · rw [show (-1 : Int) * l' = - l' by omega, if_neg (show ¬ (0 : Int32) ≤ zI (- l') from fun z => by
          have := (zI_le (a := 0) (b := - (l' : Int)) (by omega) (by omega) (by omega) (by omega)).mp z; omega), nI_zI, zI_add]
        rw [nI_zI]; congr 2; omega
      · obtain ⟨k, hk⟩ := d
        refine ⟨v + k, ?_⟩
        rw [show ((n - l' : Nat) : Int) = (n : Int) - l' by omega]
        grind
