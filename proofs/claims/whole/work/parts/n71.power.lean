/-! settle: the two numbers of a curve -/
theorem dvd_qpow {q d s : Nat} (hq : prm q) (h : d ∣ q ^ s) : ∃ k, k ≤ s ∧ d = q ^ k := by
  have q2 := hq.1
  have qs : 0 < q ^ s := Nat.pow_pos (by omega)
  have d0 : 0 < d := Nat.pos_of_dvd_of_pos h qs
  obtain ⟨k, m, e, nd⟩ := part_ex q2 d d0
  have c : Nat.Coprime m (q ^ s) := (cop_pow (prm_cop hq nd) s).symm
  have m1 : m = 1 := by
    have : m ∣ q ^ s := Nat.dvd_trans ⟨q ^ k, by rw [e, Nat.mul_comm]⟩ h
    exact Nat.Coprime.eq_one_of_dvd c this
  have dl := Nat.le_of_dvd qs h
  rw [m1, Nat.mul_one] at e
  rw [e] at dl
  exact ⟨k, (Nat.pow_le_pow_iff_right (by omega)).mp dl, e⟩
theorem qpow_le {q i j : Nat} (q2 : 2 ≤ q) : q ^ i ≤ q ^ j ↔ i ≤ j := Nat.pow_le_pow_iff_right (by omega)
theorem pow13 {q k : Nat} (q2 : 2 ≤ q) (h : q ^ k ≤ 10300) : k ≤ 13 := Nat.le_of_not_lt fun z => by
  have h1 : 2 ^ k ≤ q ^ k := Nat.pow_le_pow_left q2 k
  have h2 : 2 ^ 14 ≤ 2 ^ k := Nat.pow_le_pow_right (by omega) z
  omega
/-- by which power of q a point comes to a multiple of the laid one -/
theorem ptlC {F : Type} [mFld F] {P A B : Nat} {φ : Int → F} (hc : CX F P A B φ) {N : Nat} (hN : 2 ^ 64 ≤ N) {U : EP (φ A) (φ B)} {n : Nat} (ho : isOrd (gO hc) ez n U) (hn : n ≤ 10300) {r : Nat} {back : Int32} {st ends : Nat → Int32} (hL : LD hc U r st ends) (hb : pe P φ back (en (gm (gO hc) ez (2 * r + 1) U)).1) {t : Int32} {z : EP (φ A) (φ B)} (ht : pe P φ t z.1) {q k : Nat} (q2 : 2 ≤ q) (qk : q ^ k ≤ 10300) (qb : q ≤ 10300) (hz : gm (gO hc) ez (q ^ k) z = ez) : ∃ j, j ≤ k ∧ mX3_powerToLaid N (nI n) (nI r) back st ends (nI P) (nI A) t (nI q) = some (nI (q ^ j)) ∧ (∀ i, i < j → ¬ mult (gO hc) ez U (gm (gO hc) ez (q ^ i) z)) ∧ mult (gO hc) ez U (gm (gO hc) ez (q ^ j) z) := by
  have ab := gO_ab hc
  have k13 := pow13 q2 qk
  obtain ⟨⟨o1, o2, o3⟩, eo, j, jk, e1, no, ye⟩ := mi_run_ok (mX3_powerToLaid_b9 N (nI n) (nI r) back st ends (nI P) (nI A) (nI q)) (fun s => ∃ j, j ≤ k ∧ s.1 = nI (q ^ j) ∧ s.2.2 = nI j ∧ pe P φ s.2.1 (gm (gO hc) ez (q ^ j) z).1 ∧ ∀ i, i < j → ¬ mult (gO hc) ez U (gm (gO hc) ez (q ^ i) z)) (fun o => ∃ j, j ≤ k ∧ o.1 = nI (q ^ j) ∧ (∀ i, i < j → ¬ mult (gO hc) ez U (gm (gO hc) ez (q ^ i) z)) ∧ mult (gO hc) ez U (gm (gO hc) ez (q ^ j) z)) (fun s => 64 - s.2.2.toNatClampNeg) (by
    rintro ⟨x1, x2, x3⟩ ⟨j, jk, e1, e3, p2, no⟩
    have e1 : x1 = nI (q ^ j) := e1
    have e3 : x3 = nI j := e3
    have p2 : pe P φ x2 (gm (gO hc) ez (q ^ j) z).1 := p2
    subst e1 e3
    dsimp only [mX3_powerToLaid_b9, mi_let]
    rw [if_neg (show ¬ 32 ≤ nI j from nI_ge (b := 32) (by omega) (by omega))]
    obtain ⟨w, ew, lw⟩ := stepsTo_ok hc hN ho hn hL hb p2
    rw [ew]; simp only [Option.bind_some]
    rcases lw with ⟨w1, nm⟩ | ⟨k', n', o', kn, w1, gk⟩
    · left
      rw [if_pos w1]
      have jlt : j < k := by
        rcases Nat.lt_or_ge j k with y | y
        · exact y
        · exfalso
          have : j = k := by omega
          subst this
          exact nm ⟨0, by rw [hz]; rfl⟩
      have b1 : q ^ (j + 1) ≤ q ^ k := Nat.pow_le_pow_right (by omega) jlt
      obtain ⟨v, ev, pv⟩ := multC hc hN p2 (nI q).toInt64
      rw [nI_l_toInt (by omega), gz_nat, ← gm_mul ab, ← Nat.pow_succ'] at pv
      rw [ev]; simp only [Option.bind_some]
      refine ⟨_, rfl, ⟨j + 1, jlt, ?_, nI_1 j, pv, fun i hi => ?_⟩, ?_⟩
      · show nI (q ^ j) * nI q = _
        rw [pk_mul, Nat.pow_succ]
      · by_cases y : i = j
        · rw [y]; exact nm
        · exact no i (by omega)
      · show 64 - (nI j + 1).toNatClampNeg < 64 - (nI j).toNatClampNeg
        rw [nI_1, nI_clamp (by omega), nI_clamp (by omega)]; omega
    · right
      have kb : n' = n := ord_uniq ab o' ho
      rw [if_neg (by rw [w1]; exact nI_m1 (by omega))]
      exact ⟨_, rfl, j, jk, rfl, no, k', gk.symm⟩) N (1, t, 0) ⟨0, by omega, by rw [Nat.pow_zero]; rfl, rfl, by rw [Nat.pow_zero, gm_1 ab]; exact ht, fun i hi => by omega⟩ (by show 64 - _ < N; omega)
  refine ⟨j, jk, ?_, no, ye⟩
  unfold mX3_powerToLaid
  rw [eo]
  have e1 : o1 = nI (q ^ j) := e1
  rw [e1]; rfl
