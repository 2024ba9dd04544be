theorem ispM_spec (N : Nat) (hN : 20000 ≤ N) (n : Nat) (h2 : 2 ≤ n) (hn : n ≤ 10007) : (isp n ∧ mX6_isPrime N (nI n) = some 1) ∨ (¬ isp n ∧ mX6_isPrime N (nI n) = some 0) := by
  have hn31 : n < 2 ^ 31 := by omega
  obtain ⟨o, ho, hQ⟩ := mi_run_ok (mX6_isPrime_b13 N (nI n)) (fun s => ∃ q, s.2 = nI q ∧ 2 ≤ q ∧ q ≤ 10009 ∧ ((s.1 = 1 ∧ ∀ d, 2 ≤ d → d < q → ¬ n % d = 0) ∨ (s.1 = 0 ∧ ¬ isp n))) (fun o => (o.1 = 1 ∧ isp n) ∨ (o.1 = 0 ∧ ¬ isp n)) (fun s => 20000 - s.2.toNatClampNeg) (by
    intro ⟨x, y⟩ ⟨q, es, hq2, hqm, hd⟩
    dsimp only at es hd
    subst es
    have hq31 : q < 2 ^ 31 := by omega
    have hqq31 : q * q < 2 ^ 31 := Nat.lt_of_le_of_lt (Nat.mul_le_mul hqm hqm) (by omega)
    have hne : ¬ nI q = 0 := nI_ne0 (by omega) hq31
    dsimp only [mX6_isPrime_b13, mi_let]
    rw [pk_mul]
    by_cases hlt : n < q * q
    · right
      refine ⟨(x, nI q), by rw [if_pos (nI_lt hlt hqq31)], ?_⟩
      rcases hd with ⟨e, hd⟩ | ⟨e, hd⟩
      · left
        refine ⟨e, ?_⟩
        intro d hd2 hdd
        rcases Nat.lt_or_ge d q with k | k
        · exact hd d hd2 k
        · exfalso
          have h4 : q * q ≤ d * d := Nat.mul_le_mul k k
          omega
      · exact Or.inr ⟨e, hd⟩
    · have hqq : q * q ≤ n := Nat.not_lt.mp hlt
      have h5 : q * 2 ≤ q * q := Nat.mul_le_mul_left q hq2
      rw [if_neg (nI_nlt hqq hn31)]
      rcases hd with ⟨e, hd⟩ | ⟨e, hd⟩
      · subst e
        left
        rw [if_neg (by decide), if_neg hne, rem_nI hn31 (by omega) hq31]
        by_cases hr : n % q = 0
        · refine ⟨(0, nI (q + 1)), ?_, ⟨q + 1, rfl, by omega, by omega, Or.inr ⟨rfl, isp_not hq2 hqq hr⟩⟩, ?_⟩
          · rw [hr, if_pos nI_0, nI_1]
          · show 20000 - (nI (q + 1)).toNatClampNeg < 20000 - (nI q).toNatClampNeg
            rw [nI_clamp (by omega), nI_clamp hq31]
            omega
        · refine ⟨(1, nI (q + 1)), ?_, ⟨q + 1, rfl, by omega, by omega, Or.inl ⟨rfl, ?_⟩⟩, ?_⟩
          · rw [if_neg (nI_ne0 (Nat.pos_of_ne_zero hr) (Nat.lt_of_le_of_lt (Nat.mod_le n q) hn31)), nI_1]
          · intro d hd2 hdq2
            rcases Nat.lt_or_ge d q with k | k
            · exact hd d hd2 k
            · have h6 : d = q := by omega
              rw [h6]
              exact hr
          · show 20000 - (nI (q + 1)).toNatClampNeg < 20000 - (nI q).toNatClampNeg
            rw [nI_clamp (by omega), nI_clamp hq31]
            omega
      · subst e
        right
        exact ⟨(0, nI q), by rw [if_pos rfl], Or.inr ⟨rfl, hd⟩⟩) N (1, 2) ⟨2, rfl, by omega, by omega, Or.inl ⟨rfl, fun d h1 h3 => by omega⟩⟩ (by
    show 20000 - (nI 2).toNatClampNeg < N
    rw [nI_clamp (by omega)]
    omega)
  obtain ⟨y, z⟩ := o
  have h1 : ¬ nI n ≤ 1 := fun h => absurd (nI_lt (a := 1) (b := n) (by omega) hn31) (Int32.not_lt.mpr h)
  unfold mX6_isPrime
  rw [if_neg h1, ho]
  rcases hQ with ⟨e, h⟩ | ⟨e, h⟩
  · left
    dsimp only at e
    subst e
    exact ⟨h, rfl⟩
  · right
    dsimp only at e
    subst e
    exact ⟨h, rfl⟩
theorem in_spec (N : Nat) (a b c : Int64) : mX6_in N a b c = if b ≤ a ∧ a ≤ c then some 1 else some 0 := by
  dsimp only [mX6_in, mi_let]
  by_cases h1 : a < b
  · rw [if_pos ((lg_cmp_lt _ _).mpr h1), if_neg (fun h => absurd h1 (Int64.not_lt.mpr h.1))]
  · rw [if_neg (fun h => h1 ((lg_cmp_lt _ _).mp h))]
    by_cases h2 : c < a
    · rw [if_pos ((lg_cmp_gt _ _).mpr h2), if_neg (fun h => absurd h2 (Int64.not_lt.mpr h.2))]
    · rw [if_neg (fun h => h2 ((lg_cmp_gt _ _).mp h)), if_pos ⟨Int64.not_lt.mp h1, Int64.not_lt.mp h2⟩]
theorem i32_of {p : Int32} {a b : Nat} (h : (a : Int) ≤ p.toInt) (h2 : p.toInt ≤ (b : Int)) : ∃ P, p = nI P ∧ a ≤ P ∧ P ≤ b ∧ P < 2 ^ 31 := by
  have h0 : ¬ p < 0 := fun q => by
    rw [Int32.lt_iff_toInt_lt] at q
    have : (0 : Int32).toInt = 0 := rfl
    omega
  obtain ⟨P, hP, e⟩ := nI_of h0
  subst e
  rw [nI_toInt hP] at h h2
  exact ⟨P, rfl, by omega, by omega, hP⟩
theorem fpM_spec (N : Nat) (hN : 20000 ≤ N) (p : Int32) : (∃ P, isF p P ∧ mX6_isWanted N p = some 1) ∨ ((¬ ∃ P, isF p P) ∧ mX6_isWanted N p = some 0) := by
  unfold mX6_isWanted
  rw [in_spec]
  by_cases h : (5 : Int64) ≤ p.toInt64 ∧ p.toInt64 ≤ 10007
  · rw [if_pos h, Int64.le_iff_toInt_le, Int64.le_iff_toInt_le, Int32.toInt_toInt64] at *
    have e5 : (5 : Int64).toInt = 5 := by decide
    have eM : (10007 : Int64).toInt = 10007 := by decide
    rw [e5, eM] at h
    obtain ⟨P, e, h5, hP, h31⟩ := i32_of (a := 5) (b := 10007) h.1 h.2
    subst e
    show _ ∨ _
    rcases ispM_spec N hN P (by omega) hP with ⟨h3, e⟩ | ⟨h3, e⟩
    · left
      refine ⟨P, ⟨rfl, h5, hP, h3⟩, ?_⟩
      show (mX6_isPrime N (nI P)).bind (fun r3 => if r3 = 0 then some 0 else some 1) = some 1
      rw [e]
      rfl
    · right
      refine ⟨?_, ?_⟩
      · intro ⟨Q, e2, h1, h2, h4⟩
        rw [nI_eq (by omega) (by omega)] at e2
        rw [e2] at h3
        exact h3 h4
      · show (mX6_isPrime N (nI P)).bind (fun r3 => if r3 = 0 then some 0 else some 1) = some 0
        rw [e]
        rfl
  · rw [if_neg h]
    right
    refine ⟨?_, rfl⟩
    intro ⟨P, e, h1, h2, _⟩
    subst e
    apply h
    rw [Int64.le_iff_toInt_le, Int64.le_iff_toInt_le, Int32.toInt_toInt64, nI_toInt (by omega)]
    have e5 : (5 : Int64).toInt = 5 := by decide
    have eM : (10007 : Int64).toInt = 10007 := by decide
    rw [e5, eM]
    omega
/-- a number below P -/
def isB (a : Int32) (P A : Nat) : Prop := a = nI A ∧ A < P
theorem belowC (N : Nat) (a : Int32) (P : Nat) (hP : P ≤ 10007) : (∃ A, isB a P A ∧ mX4_isBelow N a (nI P) = some 1) ∨ ((¬ ∃ A, isB a P A) ∧ mX4_isBelow N a (nI P) = some 0) := by
  unfold mX4_isBelow
  by_cases h0 : a < 0
  · right
    refine ⟨?_, by rw [if_pos h0]⟩
    intro ⟨A, e, h⟩
    rw [e] at h0
    exact nI_pos (by omega) h0
  · rw [if_neg h0]
    obtain ⟨A, hA, e⟩ := nI_of h0
    subst e
    by_cases h : P ≤ A
    · right
      refine ⟨?_, by rw [if_pos (nI_le h hA)]⟩
      intro ⟨B, e, hB⟩
      rw [nI_eq hA (by omega)] at e
      omega
    · left
      refine ⟨A, ⟨rfl, by omega⟩, ?_⟩
      rw [if_neg (nI_ge (by omega) (by omega))]
theorem belowM (N : Nat) (a : Int32) (P : Nat) (h1 : 1 ≤ P) (hP : P ≤ 10007) : (∃ A, isB a P A ∧ mX6_in N a.toInt64 0 ((nI P - 1).toInt64) = some 1) ∨ ((¬ ∃ A, isB a P A) ∧ mX6_in N a.toInt64 0 ((nI P - 1).toInt64) = some 0) := by
  rw [in_spec, show nI P - 1 = nI (P - 1) from pk_sub (a := P) (b := 1) h1]
  have e0 : (0 : Int64).toInt = 0 := by decide
  by_cases h : (0 : Int64) ≤ a.toInt64 ∧ a.toInt64 ≤ (nI (P - 1)).toInt64
  · left
    rw [if_pos h]
    rw [Int64.le_iff_toInt_le, Int64.le_iff_toInt_le, Int32.toInt_toInt64, Int32.toInt_toInt64, nI_toInt (by omega), e0] at h
    obtain ⟨A, e, -, hA, h31⟩ := i32_of (a := 0) (b := P - 1) h.1 h.2
    exact ⟨A, ⟨e, by omega⟩, rfl⟩
  · right
    rw [if_neg h]
    refine ⟨?_, rfl⟩
    intro ⟨A, e, hA⟩
    subst e
    apply h
    rw [Int64.le_iff_toInt_le, Int64.le_iff_toInt_le, Int32.toInt_toInt64, Int32.toInt_toInt64, nI_toInt (by omega), nI_toInt (by omega), e0]
    omega
