theorem gcdC {N : Nat} (hN : 2 ^ 64 ≤ N) {a b : Nat} (ha : 0 < a) (ha2 : a ≤ 20000) (hb : b ≤ 20000) : mX4_commonPart N (nI a) (nI b) = some (nI (Nat.gcd a b)) := by
  obtain ⟨o, ho, q⟩ := mi_run_ok (mX4_commonPart_b7 N) (fun s => ∃ x y t : Nat, s.1 = nI x ∧ s.2.1 = nI y ∧ s.2.2 = nI t ∧ t ≤ 64 ∧ x ≤ 20000 ∧ y ≤ 20000 ∧ Nat.gcd x y = Nat.gcd a b ∧ (t = 0 ∨ (y ≤ x ∧ 0 < x ∧ x * y * 2 ^ (t - 1) ≤ 2 ^ 29))) (fun o => o.1 = nI (Nat.gcd a b)) (fun s => 64 - s.2.2.toNatClampNeg) (by
    rintro ⟨x1, x2, x3⟩ ⟨x, y, t, e1, e2, e3, t64, hx, hy, hg, hm⟩
    have e1' : x1 = nI x := e1
    have e2' : x2 = nI y := e2
    have e3' : x3 = nI t := e3
    subst e1' e2' e3'
    dsimp only [mX4_commonPart_b7, mi_let]
    have fin : y = 0 → nI x = nI (Nat.gcd a b) := fun z => by rw [← hg, z, Nat.gcd_zero_right]
    by_cases c : 64 ≤ t
    · right
      rw [if_pos (show (64 : Int32) ≤ nI t from nI_le (a := 64) c (by omega))]
      refine ⟨_, rfl, fin ?_⟩
      rcases hm with z | ⟨-, x0, m⟩
      · omega
      · refine Classical.byContradiction fun y0 => ?_
        have h1 : 1 ≤ x * y := Nat.mul_pos x0 (by omega)
        have h2 : 2 ^ 30 ≤ 2 ^ (t - 1) := Nat.pow_le_pow_right (by omega) (by omega)
        have h3 : 1 * 2 ^ (t - 1) ≤ x * y * 2 ^ (t - 1) := Nat.mul_le_mul_right _ h1
        omega
    · rw [if_neg (show ¬ (64 : Int32) ≤ nI t from nI_ge (b := 64) (by omega) (by omega))]
      by_cases y0 : y = 0
      · right
        rw [if_pos (show nI y = 0 by rw [y0]; rfl)]
        exact ⟨_, rfl, fin y0⟩
      · left
        have yz : ¬ nI y = 0 := nI_ne0 (by omega) (by omega)
        rw [if_neg yz, if_neg yz, rem_nI (by omega) (by omega) (by omega)]
        have ml : x % y < y := Nat.mod_lt _ (by omega)
        refine ⟨_, rfl, ⟨y, x % y, t + 1, rfl, rfl, nI_1 t, by omega, hy, by omega, ?_, Or.inr ⟨by omega, by omega, ?_⟩⟩, ?_⟩
        · rw [← hg, Nat.gcd_comm x y, Nat.gcd_rec y x, Nat.gcd_comm]
        · rcases hm with z | ⟨yx, x0, m⟩
          · subst z
            have : y * (x % y) ≤ 20000 * 20000 := Nat.mul_le_mul hy (by omega)
            show y * (x % y) * 2 ^ (0 + 1 - 1) ≤ 2 ^ 29
            rw [show 0 + 1 - 1 = 0 from rfl, Nat.pow_zero, Nat.mul_one]; omega
          · by_cases t0 : t = 0
            · subst t0
              have : y * (x % y) ≤ 20000 * 20000 := Nat.mul_le_mul hy (by omega)
              show y * (x % y) * 2 ^ (0 + 1 - 1) ≤ 2 ^ 29
              rw [show 0 + 1 - 1 = 0 from rfl, Nat.pow_zero, Nat.mul_one]; omega
            · have hh : 2 * (x % y) ≤ x := by
                have d1 : 1 ≤ x / y := Nat.div_pos yx (by omega)
                have := Nat.div_add_mod x y
                have : y * 1 ≤ y * (x / y) := Nat.mul_le_mul_left y d1
                omega
              have h2 : 2 ^ (t + 1 - 1) = 2 * 2 ^ (t - 1) := by rw [Nat.mul_comm, ← Nat.pow_succ]; congr 1; omega
              rw [h2]
              calc y * (x % y) * (2 * 2 ^ (t - 1)) = y * (2 * (x % y)) * 2 ^ (t - 1) := by grind
                _ ≤ y * x * 2 ^ (t - 1) := Nat.mul_le_mul_right _ (Nat.mul_le_mul_left _ hh)
                _ = x * y * 2 ^ (t - 1) := by rw [Nat.mul_comm y x]
                _ ≤ 2 ^ 29 := m
        · show 64 - (nI t + 1).toNatClampNeg < 64 - (nI t).toNatClampNeg
          rw [nI_1, nI_clamp (by omega), nI_clamp (by omega)]; omega) N (nI a, nI b, 0) ⟨a, b, 0, rfl, rfl, rfl, by omega, ha2, hb, rfl, Or.inl rfl⟩ (by show 64 - _ < N; omega)
  unfold mX4_commonPart
  rw [ho]
  obtain ⟨o1, o2, o3⟩ := o
  exact congrArg some q
/-! the embedding degree: the least k of which p^k is 1 modulo n -/
def isEm (n p : Nat) (w : Int32) : Prop := (w = -1 ∧ ∀ k, 1 ≤ k → ¬ p ^ k % n = 1) ∨ ∃ k, 1 ≤ k ∧ k < 2 ^ 31 ∧ w = nI k ∧ p ^ k % n = 1 ∧ ∀ j, 1 ≤ j → j < k → ¬ p ^ j % n = 1
theorem isEm_un {n p : Nat} {w w' : Int32} (h : isEm n p w) (h' : isEm n p w') : w = w' := by
  rcases h with ⟨e, no⟩ | ⟨k, k1, k31, e, kk, kl⟩
  · rcases h' with ⟨e', -⟩ | ⟨k', k1', -, -, kk', -⟩
    · rw [e, e']
    · exact absurd kk' (no k' k1')
  · rcases h' with ⟨-, no'⟩ | ⟨k', k1', k31', e', kk', kl'⟩
    · exact absurd kk (no' k k1)
    · rcases Nat.lt_trichotomy k k' with q | q | q
      · exact absurd kk (kl' k k1 q)
      · rw [e, e', q]
      · exact absurd kk' (kl k' k1' q)
/-- by the pigeonhole: if p is without a part in common with n, some k below n will do -/
theorem em_ex {n p : Nat} (n2 : 2 ≤ n) (c : Nat.Coprime p n) : ∃ k, 1 ≤ k ∧ k < n ∧ p ^ k % n = 1 := by
  refine Classical.byContradiction fun no => ?_
  have nd : ((List.range n).map (fun i => p ^ i % n)).Nodup := by
    unfold List.Nodup
    rw [List.pairwise_map]
    refine List.Pairwise.imp_of_mem (fun {i j} hi hj hij e => ?_) List.pairwise_lt_range
    have jn := List.mem_range.mp hj
    refine no ⟨j - i, by omega, by omega, ?_⟩
    have hij' : i < j := hij
    have e1 : p ^ j = p ^ i * p ^ (j - i) := by rw [← Nat.pow_add]; congr 1; omega
    have pos : 0 < p := Nat.pos_of_ne_zero fun z => by
      rw [z, Nat.coprime_zero_left] at c; omega
    have p1 : 1 ≤ p ^ (j - i) := Nat.pow_pos pos
    have d : n ∣ p ^ i * (p ^ (j - i) - 1) := by
      rw [Nat.mul_sub, Nat.mul_one, ← e1]
      exact Nat.dvd_of_mod_eq_zero (Nat.sub_mod_eq_zero_of_mod_eq (Eq.symm e))
    have d2 := Nat.Coprime.dvd_of_dvd_mul_left (Nat.Coprime.symm (cop_pow c i)) d
    obtain ⟨t, ht⟩ := d2
    rw [show p ^ (j - i) = n * t + 1 by omega, Nat.mul_add_mod, Nat.mod_eq_of_lt n2]
  have := nd_le _ ((List.range (n - 1)).map (fun i => i + 1)) nd (fun x hx => by
    obtain ⟨i, hi, rfl⟩ := List.mem_map.mp hx
    have ne : p ^ i % n ≠ 0 := fun z => by
      have d := Nat.dvd_of_mod_eq_zero z
      have := Nat.Coprime.eq_one_of_dvd (Nat.Coprime.symm (cop_pow c i)) d
      omega
    have l : p ^ i % n < n := Nat.mod_lt _ (by omega)
    exact List.mem_map.mpr ⟨p ^ i % n - 1, List.mem_range.mpr (by omega), by omega⟩)
  rw [List.length_map, List.length_map, List.length_range, List.length_range] at this
  omega
theorem pw_m (n p k : Nat) : (p % n) ^ k % n = p ^ k % n := (Nat.pow_mod p k n).symm
theorem emC {N : Nat} (hN : 2 ^ 64 ≤ N) {n p : Nat} (n2 : 2 ≤ n) (hn : n ≤ 20000) : ∃ w, mX4_orderModulo N (nI (p % n)) (nI n) = some w ∧ isEm n p w := by
  have pl : p % n < n := Nat.mod_lt _ (by omega)
  have hz : ¬ nI n = 0 := nI_ne0 (by omega) (by omega)
  unfold mX4_orderModulo
  rw [gcdC hN (by omega) hn (by omega)]; simp only [Option.bind_some]
  have gg : Nat.gcd n (p % n) = Nat.gcd n p := by rw [Nat.gcd_comm, ← Nat.gcd_rec]
  rw [gg]
  have gl : Nat.gcd n p ≤ n := Nat.gcd_le_left p (by omega)
  by_cases c : Nat.gcd n p = 1
  · rw [if_pos (show nI (Nat.gcd n p) = 1 by rw [c]; rfl)]
    obtain ⟨k0, k1, kn, kk⟩ := em_ex n2 (show Nat.Coprime p n from Nat.Coprime.symm c)
    obtain ⟨o, ho, q⟩ := mi_run_ok (mX4_orderModulo_b15 N (nI n) (nI (p % n))) (fun s => ∃ k, 1 ≤ k ∧ k ≤ k0 ∧ s.2 = nI k ∧ s.1 = nI (p ^ k % n) ∧ ∀ j, 1 ≤ j → j < k → ¬ p ^ j % n = 1) (fun o => match o with | .inl _ => False | .inr w => isEm n p w) (fun s => 30000 - s.2.toNatClampNeg) (by
      rintro ⟨x3, x4⟩ ⟨k, a1, a2, e1, e2, no⟩
      have e1' : x4 = nI k := e1
      have e2' : x3 = nI (p ^ k % n) := e2
      subst e1' e2'
      have ml : p ^ k % n < n := Nat.mod_lt _ (by omega)
      dsimp only [mX4_orderModulo_b15, mi_let]
      rw [if_neg (nI_ge (by omega) (by omega))]
      by_cases z : p ^ k % n = 1
      · right
        rw [if_pos (show nI (p ^ k % n) = 1 by rw [z]; rfl)]
        exact ⟨_, rfl, Or.inr ⟨k, a1, by omega, rfl, z, no⟩⟩
      · left
        have mm : p ^ k % n * (p % n) < 2 ^ 31 := by
          have : p ^ k % n * (p % n) ≤ 20000 * 20000 := Nat.mul_le_mul (by omega) (by omega)
          omega
        rw [if_neg (show ¬ nI (p ^ k % n) = 1 from fun w => z ((nI_eq (b := 1) (by omega) (by omega)).mp w)), if_neg hz, pk_mul, rem_nI mm (by omega) (by omega)]
        have k0' : k ≠ k0 := fun w => z (w ▸ kk)
        refine ⟨_, rfl, ⟨k + 1, by omega, by omega, nI_1 k, ?_, fun j j1 jk => ?_⟩, ?_⟩
        · show nI (p ^ k % n * (p % n) % n) = nI (p ^ (k + 1) % n)
          rw [← Nat.mul_mod, ← Nat.pow_succ]
        · by_cases w : j = k
          · rw [w]; exact z
          · exact no j j1 (by omega)
        · show 30000 - (nI k + 1).toNatClampNeg < 30000 - (nI k).toNatClampNeg
          rw [nI_1, nI_clamp (by omega), nI_clamp (by omega)]; omega) N (nI (p % n), 1) ⟨1, by omega, k1, rfl, by rw [Nat.pow_one], fun j j1 j2 => by omega⟩ (by show 30000 - _ < N; omega)
    rw [ho]
    rcases o with y | w
    · exact absurd q id
    · exact ⟨w, rfl, q⟩
  · rw [if_neg (show ¬ nI (Nat.gcd n p) = 1 from fun w => c ((nI_eq (b := 1) (by omega) (by omega)).mp w))]
    refine ⟨_, rfl, Or.inl ⟨rfl, fun k k1 e => c ?_⟩⟩
    have d1 : Nat.gcd n p ∣ p ^ k := Nat.dvd_trans (Nat.gcd_dvd_right n p) (by
      obtain ⟨j, rfl⟩ : ∃ j, k = j + 1 := ⟨k - 1, by omega⟩
      rw [Nat.pow_succ]; exact Nat.dvd_mul_left _ _)
    have d2 : Nat.gcd n p ∣ n * (p ^ k / n) := Nat.dvd_trans (Nat.gcd_dvd_left n p) (Nat.dvd_mul_right _ _)
    have := Nat.div_add_mod (p ^ k) n
    rw [e] at this
    have d3 : Nat.gcd n p ∣ 1 := (Nat.dvd_add_right d2).mp (by rw [this]; exact d1)
    exact Nat.dvd_one.mp d3
