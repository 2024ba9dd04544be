/-! the greatest power of a number that divides another -/
theorem partC {N : Nat} (hN : 2 ^ 64 ≤ N) {n q : Nat} (n1 : 1 ≤ n) (hn : n < 2 ^ 31) (q2 : 2 ≤ q) (hq : q < 2 ^ 31) : ∃ k m, n = q ^ k * m ∧ ¬ q ∣ m ∧ mX4_partOf N (nI n) (nI q) = some (nI (q ^ k)) := by
  obtain ⟨o, ho, w⟩ := mi_run_ok (mX4_partOf_b7 N (nI q)) (fun s => ∃ k m, s.1 = nI (q ^ k) ∧ s.2.1 = nI m ∧ s.2.2 = nI k ∧ n = q ^ k * m) (fun o => ∃ k m, n = q ^ k * m ∧ ¬ q ∣ m ∧ o.1 = nI (q ^ k)) (fun s => 64 - s.2.2.toNatClampNeg) (by
    rintro ⟨x1, x2, x3⟩ ⟨k, m, e1, e2, e3, e⟩
    have e1' : x1 = nI (q ^ k) := e1
    have e2' : x2 = nI m := e2
    have e3' : x3 = nI k := e3
    subst e1' e2' e3'
    have m1 : 1 ≤ m := Nat.pos_of_ne_zero fun z => by rw [z, Nat.mul_zero] at e; omega
    have p2 : 2 ^ k ≤ q ^ k := Nat.pow_le_pow_left q2 k
    have p1 : 1 ≤ q ^ k := Nat.pow_pos (by omega)
    have qn : q ^ k ≤ n := by
      have : q ^ k * 1 ≤ q ^ k * m := Nat.mul_le_mul_left _ m1
      omega
    have mn : m ≤ n := by
      have : 1 * m ≤ q ^ k * m := Nat.mul_le_mul_right _ p1
      omega
    have k31 : k < 31 := Nat.lt_of_not_le fun z => by
      have : 2 ^ 31 ≤ 2 ^ k := Nat.pow_le_pow_right (by omega) z
      omega
    dsimp only [mX4_partOf_b7, mi_let]
    rw [if_neg (show ¬ (32 : Int32) ≤ nI k from nI_ge (b := 32) (by omega) (by omega))]
    by_cases c : m = 1
    · right
      rw [if_pos (show nI m ≤ 1 from nI_le (b := 1) (by omega) (by omega))]
      exact ⟨_, rfl, k, m, e, fun d => by have := Nat.le_of_dvd (by omega) d; omega, rfl⟩
    · have qz : ¬ nI q = 0 := nI_ne0 (by omega) (by omega)
      rw [if_neg (show ¬ nI m ≤ 1 from nI_ge (a := 1) (by omega) (by omega)), if_neg (show ¬ nI q ≤ 1 from nI_ge (a := 1) (by omega) (by omega)), if_neg qz, rem_nI (by omega) (by omega) (by omega)]
      have ml : m % q < q := Nat.mod_lt _ (by omega)
      by_cases d : m % q = 0
      · left
        rw [if_pos (show nI (m % q) = 0 by rw [d]; rfl), if_neg qz, n32_div (by omega) (by omega) (by omega), pk_mul]
        refine ⟨_, rfl, ⟨k + 1, m / q, ?_, rfl, nI_1 k, ?_⟩, ?_⟩
        · show nI (q ^ k * q) = nI (q ^ (k + 1)); rw [Nat.pow_succ]
        · rw [Nat.pow_succ, Nat.mul_assoc, Nat.mul_div_cancel' (Nat.dvd_of_mod_eq_zero d)]; exact e
        · show 64 - (nI k + 1).toNatClampNeg < 64 - (nI k).toNatClampNeg
          rw [nI_1, nI_clamp (by omega), nI_clamp (by omega)]; omega
      · right
        rw [if_neg (nI_ne0 (by omega) (by omega))]
        exact ⟨_, rfl, k, m, e, fun z => d (Nat.mod_eq_zero_of_dvd z), rfl⟩) N (1, nI n, 0) ⟨0, n, rfl, rfl, rfl, by rw [Nat.pow_zero, Nat.one_mul]⟩ (by show 64 - _ < N; omega)
  obtain ⟨k, m, a, b, c⟩ := w
  refine ⟨k, m, a, b, ?_⟩
  unfold mX4_partOf
  rw [ho]
  obtain ⟨o1, o2, o3⟩ := o
  exact congrArg some c
theorem uN_nI {m : Nat} (h : m < 2 ^ 31) : uN (nI m).toInt64 = m := by
  rw [uN_pos (by rw [nIl_toInt h]; omega), nIl_toInt h]; omega
/-- x generates if no prime of p - 1 may be taken off -/
def gnr (P x : Nat) : Prop := ∀ q, prm q → q ∣ P - 1 → ¬ x ^ ((P - 1) / q) % P = 1
theorem gntC {N : Nat} (hN : 2 ^ 64 ≤ N) {P x : Nat} (h5 : 5 ≤ P) (hP : P ≤ 10007) (hx : x < P) : (gnr P x ∧ mX4_generates N (nI x) (nI P) = some 1) ∨ (¬ gnr P x ∧ mX4_generates N (nI x) (nI P) = some 0) := by
  have s1 : nI P - 1 = nI (P - 1) := by rw [nI_zI, nI_zI, show (1 : Int32) = zI 1 from rfl, zI_sub]; congr 1; omega
  obtain ⟨o, ho, w⟩ := mi_run_ok (mX4_generates_b6 N (nI P) (nI x)) (fun s => ∃ r t, s.1 = nI r ∧ s.2 = nI t ∧ 1 ≤ r ∧ r ∣ P - 1 ∧ r * 2 ^ t ≤ P - 1 ∧ ∀ q, prm q → q ∣ P - 1 → q ∣ r ∨ ¬ x ^ ((P - 1) / q) % P = 1) (fun o => match o with | .inl _ => gnr P x | .inr y => y = 0 ∧ ¬ gnr P x) (fun s => 64 - s.2.toNatClampNeg) (by
    rintro ⟨x1, x2⟩ ⟨r, t, e1, e2, r1, rd, rt, hq⟩
    have e1' : x1 = nI r := e1
    have e2' : x2 = nI t := e2
    subst e1' e2'
    have rP := Nat.le_of_dvd (by omega) rd
    have t14 : t < 14 := Nat.lt_of_not_le fun z => by
      have : 2 ^ 14 ≤ 2 ^ t := Nat.pow_le_pow_right (by omega) z
      have : 1 * 2 ^ t ≤ r * 2 ^ t := Nat.mul_le_mul_right _ r1
      omega
    dsimp only [mX4_generates_b6, mi_let]
    rw [if_neg (show ¬ (32 : Int32) ≤ nI t from nI_ge (b := 32) (by omega) (by omega))]
    by_cases c : r = 1
    · right
      rw [if_pos (show nI r ≤ 1 from nI_le (b := 1) (by omega) (by omega))]
      refine ⟨_, rfl, fun q pq qd => ?_⟩
      rcases hq q pq qd with z | z
      · have := Nat.le_of_dvd (by omega) z
        have := pq.1
        omega
      · exact z
    · obtain ⟨q, eq, pq, qr, -⟩ := lf2 N hN r (by omega) (by omega)
      have q2 := pq.1
      have qrl := Nat.le_of_dvd (by omega) qr
      obtain ⟨k, m, ek, nm, ep⟩ := partC hN (n := r) (q := q) r1 (by omega) q2 (by omega)
      have p1 : 1 ≤ q ^ k := Nat.pow_pos (by omega)
      have m1 : 1 ≤ m := Nat.pos_of_ne_zero fun z => nm (by rw [z]; exact Nat.dvd_zero q)
      have k1 : k ≠ 0 := fun z => nm (by rw [z, Nat.pow_zero, Nat.one_mul] at ek; rw [← ek]; exact qr)
      have qk : q ∣ q ^ k := by
        obtain ⟨j, rfl⟩ : ∃ j, k = j + 1 := ⟨k - 1, by omega⟩
        rw [Nat.pow_succ]; exact Nat.dvd_mul_left _ _
      have qkr : q ^ k ≤ r := by
        have : q ^ k * 1 ≤ q ^ k * m := Nat.mul_le_mul_left _ m1
        omega
      have dv : r / q ^ k = m := Nat.div_eq_of_eq_mul_right p1 ek
      have pl : (P - 1) / q ≤ P - 1 := Nat.div_le_self _ _
      have uu : uN (nI ((P - 1) / q)).toInt64 = (P - 1) / q := uN_nI (Nat.lt_of_le_of_lt pl (by omega))
      rw [if_neg (show ¬ nI r ≤ 1 from nI_ge (a := 1) (by omega) (by omega)), eq]; simp only [Option.bind_some]
      rw [if_neg (nI_ne0 (by omega) (by omega)), s1, n32_div (by omega) (by omega) (by omega), raisedC hN (by omega) (by omega) hx, uu]; simp only [Option.bind_some]
      have xl : x ^ ((P - 1) / q) % P < P := Nat.mod_lt _ (by omega)
      by_cases z : x ^ ((P - 1) / q) % P = 1
      · right
        rw [if_pos (show nI (x ^ ((P - 1) / q) % P) = 1 by rw [z]; rfl)]
        exact ⟨_, rfl, rfl, fun g => g q pq (Nat.dvd_trans qr rd) z⟩
      · left
        rw [if_neg (show ¬ nI (x ^ ((P - 1) / q) % P) = 1 from fun w => z ((nI_eq (b := 1) (by omega) (by omega)).mp w)), ep]; simp only [Option.bind_some]
        rw [if_neg (nI_ne0 (by omega) (by omega)), n32_div (by omega) (by omega) (by omega), dv]
        refine ⟨_, rfl, ⟨m, t + 1, rfl, nI_1 t, m1, Nat.dvd_trans ⟨q ^ k, by rw [ek, Nat.mul_comm]⟩ rd, ?_, fun q' pq' qd' => ?_⟩, ?_⟩
        · have : 2 * m ≤ r := by
            have : q * m ≤ q ^ k * m := Nat.mul_le_mul_right _ (Nat.le_of_dvd p1 qk)
            have : 2 * m ≤ q * m := Nat.mul_le_mul_right _ q2
            omega
          calc m * 2 ^ (t + 1) = 2 * m * 2 ^ t := by rw [Nat.pow_succ]; grind
            _ ≤ r * 2 ^ t := Nat.mul_le_mul_right _ this
            _ ≤ P - 1 := rt
        · rcases hq q' pq' qd' with w | w
          · by_cases qq : q' = q
            · right; rw [qq]; exact z
            · left
              rw [ek] at w
              refine Nat.Coprime.dvd_of_dvd_mul_left (Nat.Coprime.symm (cop_pow (prm_cop pq (fun d => ?_)) k)) w
              rcases pq'.2 q d with y | y
              · omega
              · exact qq y.symm
          · exact Or.inr w
        · show 64 - (nI t + 1).toNatClampNeg < 64 - (nI t).toNatClampNeg
          rw [nI_1, nI_clamp (by omega), nI_clamp (by omega)]; omega) N (nI (P - 1), 0) ⟨P - 1, 0, rfl, rfl, by omega, Nat.dvd_refl _, by omega, fun q _ d => Or.inl d⟩ (by show 64 - _ < N; omega)
  unfold mX4_generates
  dsimp only [mi_let]
  rw [s1, ho]
  rcases o with ⟨y1, y2⟩ | y
  · exact Or.inl ⟨w, rfl⟩
  · have : y = 0 := w.1
    exact Or.inr ⟨w.2, congrArg some this⟩
