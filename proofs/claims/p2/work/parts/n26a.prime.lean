/-- no number of 2 on whose square is at most n divides n -/
def isp (n : Nat) : Prop := ∀ d, 2 ≤ d → d * d ≤ n → ¬ n % d = 0
theorem rem_nI {a d : Nat} (ha : a < 2 ^ 31) (h0 : 0 < d) (hd : d < 2 ^ 31) : mi_rem (nI a) (nI d) = nI (a % d) := pk_rem ha h0 hd
theorem lf_spec (N : Nat) (hN : 20000 ≤ N) (n : Nat) (h2 : 2 ≤ n) (hn : n ≤ 10007) : ∃ r, mX4_leastFactor N (nI n) = some r ∧ ((isp n ∧ r = nI n) ∨ (∃ q, 2 ≤ q ∧ q * q ≤ n ∧ n % q = 0 ∧ r = nI q)) := by
  have hn31 : n < 2 ^ 31 := by omega
  obtain ⟨o, ho, hQ⟩ := mi_run_ok (mX4_leastFactor_b2 N (nI n)) (fun s => ∃ q, s = nI q ∧ 2 ≤ q ∧ q ≤ 10008 ∧ ∀ d, 2 ≤ d → d < q → ¬ n % d = 0) (fun o => match o with | .inl _ => isp n | .inr y => ∃ q, 2 ≤ q ∧ q * q ≤ n ∧ n % q = 0 ∧ y = nI q) (fun s => 20000 - s.toNatClampNeg) (by
    intro s ⟨q, es, hq2, hqm, hd⟩
    subst es
    have hq31 : q < 2 ^ 31 := by omega
    have hne : ¬ nI q = 0 := nI_ne0 (by omega) hq31
    dsimp only [mX4_leastFactor_b2, mi_let]
    rw [if_neg hne, pk_div hn31 (by omega) hq31]
    have hdq : n / q < 2 ^ 31 := Nat.lt_of_le_of_lt (Nat.div_le_self n q) hn31
    by_cases hlt : n / q < q
    · right
      refine ⟨.inl (nI q), by rw [if_pos (nI_lt hlt hq31)], ?_⟩
      intro d hd2 hdd
      rcases Nat.lt_or_ge d q with k | k
      · exact hd d hd2 k
      · exfalso
        have h4 : q * q ≤ n := Nat.le_trans (Nat.mul_le_mul k k) hdd
        have h3 : n < q * q := (Nat.div_lt_iff_lt_mul (by omega)).mp hlt
        omega
    · have hge : q ≤ n / q := Nat.not_lt.mp hlt
      have hqq : q * q ≤ n := (Nat.le_div_iff_mul_le (by omega)).mp hge
      rw [if_neg (nI_nlt hge hdq), if_neg hne, rem_nI hn31 (by omega) hq31]
      by_cases hr : n % q = 0
      · right
        refine ⟨.inr (nI q), ?_, q, hq2, hqq, hr, rfl⟩
        rw [hr, if_pos nI_0]
      · left
        refine ⟨nI (q + 1), ?_, ⟨q + 1, rfl, by omega, ?_, ?_⟩, ?_⟩
        · rw [if_neg (nI_ne0 (Nat.pos_of_ne_zero hr) (Nat.lt_of_le_of_lt (Nat.mod_le n q) hn31)), nI_1]
        · have h5 : q ≤ q * q := Nat.le_mul_of_pos_left q (by omega)
          omega
        · intro d hd2 hdq2
          rcases Nat.lt_or_ge d q with k | k
          · exact hd d hd2 k
          · have h6 : d = q := by omega
            rw [h6]
            exact hr
        · show 20000 - (nI (q + 1)).toNatClampNeg < 20000 - (nI q).toNatClampNeg
          have h5 : q ≤ q * q := Nat.le_mul_of_pos_left q (by omega)
          rw [nI_clamp (by omega), nI_clamp hq31]
          omega) N 2 ⟨2, rfl, by omega, by omega, fun d h1 h3 => by omega⟩ (by
    show 20000 - (nI 2).toNatClampNeg < N
    rw [nI_clamp (by omega)]
    omega)
  unfold mX4_leastFactor
  rw [ho]
  rcases o with y | y
  · exact ⟨nI n, rfl, Or.inl ⟨hQ, rfl⟩⟩
  · exact ⟨y, rfl, Or.inr hQ⟩
theorem isp_not {n q : Nat} (h2 : 2 ≤ q) (hq : q * q ≤ n) (hr : n % q = 0) : ¬ isp n := fun h => h q h2 hq hr
theorem ispC_spec (N : Nat) (hN : 20000 ≤ N) (n : Nat) (h2 : 2 ≤ n) (hn : n ≤ 10007) : (isp n ∧ mX4_isPrime N (nI n) = some 1) ∨ (¬ isp n ∧ mX4_isPrime N (nI n) = some 0) := by
  obtain ⟨r, hr, hh⟩ := lf_spec N hN n h2 hn
  unfold mX4_isPrime
  rw [if_neg (show ¬ nI n < 2 from nI_nlt (a := n) (b := 2) h2 (by omega)), hr]
  rcases hh with ⟨h3, e⟩ | ⟨q, q2, qq, qr, e⟩
  · left
    refine ⟨h3, ?_⟩
    show (if r = nI n then some (1 : Int32) else some 0) = some 1
    rw [if_pos e]
  · right
    refine ⟨isp_not q2 qq qr, ?_⟩
    show (if r = nI n then some (1 : Int32) else some 0) = some 0
    have h5 : q * 2 ≤ q * q := Nat.mul_le_mul_left q q2
    rw [if_neg]
    intro h
    rw [e, nI_eq (by omega) (by omega)] at h
    omega
/-- a prime that a curve may have -/
def isF (p : Int32) (P : Nat) : Prop := p = nI P ∧ 5 ≤ P ∧ P ≤ 10007 ∧ isp P
theorem fpC_spec (N : Nat) (hN : 20000 ≤ N) (p : Int32) : (∃ P, isF p P ∧ mX4_isFieldPrime N p = some 1) ∨ ((¬ ∃ P, isF p P) ∧ mX4_isFieldPrime N p = some 0) := by
  unfold mX4_isFieldPrime
  by_cases h5 : p < 5
  · right
    refine ⟨?_, by rw [if_pos h5]⟩
    intro ⟨P, e, h1, h2, _⟩
    rw [e] at h5
    exact nI_nlt (a := P) (b := 5) h1 (by omega) h5
  · rw [if_neg h5]
    by_cases hM : 10007 < p
    · right
      refine ⟨?_, by rw [if_pos hM]⟩
      intro ⟨P, e, h1, h2, _⟩
      rw [e] at hM
      exact nI_nlt (a := 10007) (b := P) h2 (by omega) hM
    · rw [if_neg hM]
      have h0 : ¬ p < 0 := fun h => h5 (Int32.lt_trans h (by decide))
      obtain ⟨P, hP, e⟩ := nI_of2 (M := 10007) (n := 10007) (by decide) h0 (Int32.not_lt.mp hM)
      subst e
      have h5' : 5 ≤ P := by
        rcases Nat.lt_or_ge P 5 with k | k
        · exact absurd (nI_lt k (by omega)) h5
        · exact k
      rcases ispC_spec N hN P (by omega) hP with ⟨h3, e⟩ | ⟨h3, e⟩
      · left
        exact ⟨P, ⟨rfl, h5', hP, h3⟩, by rw [e]; rfl⟩
      · right
        refine ⟨?_, by rw [e]; rfl⟩
        intro ⟨Q, e2, h1, h2, h4⟩
        rw [nI_eq (by omega) (by omega)] at e2
        rw [e2] at h3
        exact h3 h4
