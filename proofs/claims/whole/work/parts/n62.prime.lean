theorem ispM2 (N : Nat) (hN : 20000 ≤ N) (n : Nat) (h2 : 2 ≤ n) (hn : n ≤ 10300) : (isp n ∧ mX6_isPrime N (nI n) = some 1) ∨ (¬ isp n ∧ mX6_isPrime N (nI n) = some 0) := by
  have hn31 : n < 2 ^ 31 := by omega
  obtain ⟨o, ho, hQ⟩ := mi_run_ok (mX6_isPrime_b13 N (nI n)) (fun s => ∃ q, s.2 = nI q ∧ 2 ≤ q ∧ q ≤ 10302 ∧ ((s.1 = 1 ∧ ∀ d, 2 ≤ d → d < q → ¬ n % d = 0) ∨ (s.1 = 0 ∧ ¬ isp n))) (fun o => (o.1 = 1 ∧ isp n) ∨ (o.1 = 0 ∧ ¬ isp n)) (fun s => 20000 - s.2.toNatClampNeg) (by
    intro ⟨x, y⟩ ⟨q, es, hq2, hqm, hd⟩
    dsimp only at es hd
    subst es
    have hq31 : q < 2 ^ 31 := by omega
    have hqq31 : q * q < 2 ^ 31 := Nat.lt_of_le_of_lt (Nat.mul_le_mul hqm hqm) (by omega)
    have hne : ¬ nI q = 0 := nI_ne0 (by omega) hq31
    dsimp only [mX6_isPrime_b13, mi_let]
    rw [pk_mul]
    by_cases hlt : n < q * q
    · right
      refine ⟨(x, nI q), by rw [if_pos (nI_lt hlt hqq31)], ?_⟩
      rcases hd with ⟨e, hd⟩ | ⟨e, hd⟩
      · left
        refine ⟨e, ?_⟩
        intro d hd2 hdd
        rcases Nat.lt_or_ge d q with k | k
        · exact hd d hd2 k
        · exfalso
          have h4 : q * q ≤ d * d := Nat.mul_le_mul k k
          omega
      · exact Or.inr ⟨e, hd⟩
    · have hqq : q * q ≤ n := Nat.not_lt.mp hlt
      have h5 : q * 2 ≤ q * q := Nat.mul_le_mul_left q hq2
      rw [if_neg (nI_nlt hqq hn31)]
      rcases hd with ⟨e, hd⟩ | ⟨e, hd⟩
      · subst e
        left
        rw [if_neg (by decide), if_neg hne, rem_nI hn31 (by omega) hq31]
        by_cases hr : n % q = 0
        · refine ⟨(0, nI (q + 1)), ?_, ⟨q + 1, rfl, by omega, by omega, Or.inr ⟨rfl, isp_not hq2 hqq hr⟩⟩, ?_⟩
          · rw [hr, if_pos nI_0, nI_1]
          · show 20000 - (nI (q + 1)).toNatClampNeg < 20000 - (nI q).toNatClampNeg
            rw [nI_clamp (by omega), nI_clamp hq31]
            omega
        · refine ⟨(1, nI (q + 1)), ?_, ⟨q + 1, rfl, by omega, by omega, Or.inl ⟨rfl, ?_⟩⟩, ?_⟩
          · rw [if_neg (nI_ne0 (Nat.pos_of_ne_zero hr) (Nat.lt_of_le_of_lt (Nat.mod_le n q) hn31)), nI_1]
          · intro d hd2 hdq2
            rcases Nat.lt_or_ge d q with k | k
            · exact hd d hd2 k
            · have h6 : d = q := by omega
              rw [h6]
              exact hr
          · show 20000 - (nI (q + 1)).toNatClampNeg < 20000 - (nI q).toNatClampNeg
            rw [nI_clamp (by omega), nI_clamp hq31]
            omega
      · subst e
        right
        exact ⟨(0, nI q), by rw [if_pos rfl], Or.inr ⟨rfl, hd⟩⟩) N (1, 2) ⟨2, rfl, by omega, by omega, Or.inl ⟨rfl, fun d h1 h3 => by omega⟩⟩ (by
    show 20000 - (nI 2).toNatClampNeg < N
    rw [nI_clamp (by omega)]
    omega)
  obtain ⟨y, z⟩ := o
  have h1 : ¬ nI n ≤ 1 := fun h => absurd (nI_lt (a := 1) (b := n) (by omega) hn31) (Int32.not_lt.mpr h)
  unfold mX6_isPrime
  rw [if_neg h1, ho]
  rcases hQ with ⟨e, h⟩ | ⟨e, h⟩
  · left
    dsimp only at e
    subst e
    exact ⟨h, rfl⟩
  · right
    dsimp only at e
    subst e
    exact ⟨h, rfl⟩
/-- a prime, on both sides -/
theorem prime2 {N : Nat} (hN : 2 ^ 64 ≤ N) {n : Nat} (n1 : 1 ≤ n) (hn : n ≤ 10300) : (prm n ∧ mX4_isPrime N (nI n) = some 1 ∧ mX6_isPrime N (nI n) = some 1) ∨ (¬ prm n ∧ mX4_isPrime N (nI n) = some 0 ∧ mX6_isPrime N (nI n) = some 0) := by
  by_cases c : n = 1
  · right
    subst c
    refine ⟨fun h => absurd h.1 (by omega), rfl, ?_⟩
    unfold mX6_isPrime
    rw [if_pos (show nI 1 ≤ 1 by decide)]
    obtain ⟨M, rfl⟩ : ∃ M, N = M + 1 := ⟨N - 1, by omega⟩
    have : mi_run (mX6_isPrime_b13 (M + 1) (nI 1)) (M + 1) (0, 2) = some (0, 2) := by
      show (mX6_isPrime_b13 (M + 1) (nI 1) (0, 2)).bind _ = _
      rw [show mX6_isPrime_b13 (M + 1) (nI 1) (0, 2) = some (.inr (0, 2)) from by
        dsimp only [mX6_isPrime_b13]
        rw [if_pos (show nI 1 < 2 * 2 by decide)]]
      rfl
    rw [this]; rfl
  · obtain ⟨q, e, pq, qn, ql⟩ := lf2 N hN n (by omega) (by omega)
    have qle := Nat.le_of_dvd (by omega) qn
    have eC : mX4_isPrime N (nI n) = if nI q = nI n then some 1 else some 0 := by
      unfold mX4_isPrime
      rw [if_neg (show ¬ nI n < 2 from nI_nlt (b := 2) (by omega) (by omega)), e]; rfl
    by_cases z : q = n
    · left
      have pn : prm n := z ▸ pq
      refine ⟨pn, by rw [eC, if_pos (by rw [z])], ?_⟩
      rcases ispM2 N (by omega) n (by omega) hn with ⟨-, w⟩ | ⟨w, -⟩
      · exact w
      · exact absurd (isp_prm pn) w
    · right
      have pn : ¬ prm n := fun p => by
        rcases p.2 q qn with y | y
        · have := pq.1; omega
        · exact z y
      refine ⟨pn, by rw [eC, if_neg (fun w => z ((nI_eq (by omega) (by omega)).mp w))], ?_⟩
      rcases ispM2 N (by omega) n (by omega) hn with ⟨w, -⟩ | ⟨-, w⟩
      · exact absurd (prm_isp w (by omega)) pn
      · exact w
/-- both find the same inverse modulo a prime order -/
theorem inv_over {N : Nat} (hN : 2 ^ 64 ≤ N) {n v : Nat} (hp : prm n) (hn : n ≤ 10300) (v0 : 0 < v) (hv : v < n) : ∃ r, r < n ∧ mX6_over N (nI v) (nI n) = some (nI r) ∧ mX4_inverted N (nI v) (nI n) = some (nI r) := by
  obtain ⟨r, hr, e, d⟩ := overR hN hp hn v0 hv
  have c : Nat.Coprime v n := (prm_cop hp (fun d => by have := Nat.le_of_dvd v0 d; omega)).symm
  obtain ⟨s, hs, e2, d2⟩ := inv_spec N (by omega) (n := n) (v := v) (by omega) v0 hv c
  have := inv_un hr hs d d2
  subst this
  exact ⟨r, hr, e, e2⟩
