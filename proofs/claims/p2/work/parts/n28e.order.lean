/-! the reference's order of a point -/
theorem n32_div {a d : Nat} (ha : a < 2 ^ 31) (h0 : 0 < d) (hd : d < 2 ^ 31) : nI a / nI d = nI (a / d) := pk_div ha h0 hd
theorem ord23 (N : Nat) (hN : 2 ^ 64 ≤ N) (P : Nat) (h1 : 1 ≤ P) (hP : P ≤ 10007) (a : Int32) (f : Nat → Int32) (q : Int32) (d : Nat) (hd2 : 2 ≤ d) (hd : d ≤ 10301) (n l : Nat) (hn0 : 0 < n) (hn : n ≤ 10300) (hl0 : 0 < l) (hln : l ∣ n) :
    ∃ n' l', mi_run (mX6_orderOf_b23 N (nI d) (nI P) a f q) N (nI n, nI l) = some (nI n', nI l') ∧ 0 < n' ∧ n' ∣ n ∧ 0 < l' ∧ l' ∣ n' ∧ l' ≤ l := by
  have hln' : l ≤ n := Nat.le_of_dvd hn0 hln
  obtain ⟨o, ho, n', l', eo, k1, k2, k3, k4, k5⟩ := mi_run_ok (mX6_orderOf_b23 N (nI d) (nI P) a f q) (fun s => ∃ n1 l1, s = (nI n1, nI l1) ∧ 0 < n1 ∧ n1 ∣ n ∧ 0 < l1 ∧ l1 ∣ n1 ∧ l1 ≤ l) (fun o => ∃ n1 l1, o = (nI n1, nI l1) ∧ 0 < n1 ∧ n1 ∣ n ∧ 0 < l1 ∧ l1 ∣ n1 ∧ l1 ≤ l) (fun s => s.2.toNatClampNeg) (by
    rintro _ ⟨n1, l1, rfl, j1, j2, j3, j4, j5⟩
    have hn1 : n1 ≤ n := Nat.le_of_dvd hn0 j2
    have hdz : ¬ nI d = 0 := nI_ne0 (by omega) (by omega)
    dsimp only [mX6_orderOf_b23, mi_let]
    rw [if_neg hdz, rem_nI (by omega) (by omega) (by omega)]
    by_cases c : l1 % d = 0
    · left
      rw [if_pos (by rw [c]; rfl), if_neg hdz, if_neg hdz, n32_div (by omega) (by omega) (by omega), n32_div (by omega) (by omega) (by omega)]
      rw [multE hN h1 hP]; simp only [Option.bind_some]
      obtain ⟨e, he⟩ := Nat.dvd_of_mod_eq_zero c
      have he0 : 0 < e := Nat.pos_of_ne_zero fun h => by rw [h, Nat.mul_zero] at he; omega
      have hle : l1 / d = e := by rw [he]; exact Nat.mul_div_cancel_left e (by omega)
      have helt : e < l1 := by rw [he]; have := Nat.mul_le_mul_right e hd2; omega
      obtain ⟨m, hm⟩ := j4
      have hm0 : 0 < m := Nat.pos_of_ne_zero fun h => by rw [h, Nat.mul_zero] at hm; omega
      have hn1d : n1 / d = e * m := by rw [hm, he, Nat.mul_assoc]; exact Nat.mul_div_cancel_left _ (by omega)
      have hmu : (nI e).toNatClampNeg < (nI l1).toNatClampNeg := by rw [nI_clamp (by omega), nI_clamp (by omega)]; exact helt
      rw [hle, hn1d]
      by_cases c2 : multF N P a f q (nI (e * m)).toInt64 = -1
      · rw [if_pos c2, if_neg hdz]
        refine ⟨_, rfl, ⟨e * m, e, rfl, Nat.mul_pos he0 hm0, Nat.dvd_trans ⟨d, ?_⟩ j2, he0, Nat.dvd_mul_right e m, by omega⟩, hmu⟩
        rw [hm, he, Nat.mul_comm (e * m) d, Nat.mul_assoc]
      · rw [if_neg c2]
        exact ⟨_, rfl, ⟨n1, e, rfl, j1, j2, he0, Nat.dvd_trans ⟨d, by rw [he, Nat.mul_comm]⟩ ⟨m, hm⟩, by omega⟩, hmu⟩
    · right
      have hr := Nat.mod_lt l1 (show 0 < d by omega)
      rw [if_neg (nI_ne0 (by omega) (by omega))]
      exact ⟨_, rfl, n1, l1, rfl, j1, j2, j3, j4, j5⟩) N (nI n, nI l) ⟨n, l, rfl, hn0, Nat.dvd_refl n, hl0, hln, Nat.le_refl l⟩ (by show (nI l).toNatClampNeg < N; rw [nI_clamp (by omega)]; omega)
  exact ⟨n', l', by rw [ho, eo], k1, k2, k3, k4, k5⟩
theorem ord17 (N : Nat) (hN : 2 ^ 64 ≤ N) (P : Nat) (h1 : 1 ≤ P) (hP : P ≤ 10007) (a : Int32) (f : Nat → Int32) (q : Int32) (M : Nat) (hM0 : 0 < M) (hM : M ≤ 10300) :
    ∃ n l d, mi_run (mX6_orderOf_b17 N (nI P) a f q) N (nI M, nI M, 2) = some (nI n, l, d) ∧ 0 < n ∧ n ∣ M := by
  obtain ⟨o, ho, n, eo, k1, k2⟩ := mi_run_ok (mX6_orderOf_b17 N (nI P) a f q) (fun s => ∃ n1 l1 d1, s = (nI n1, nI l1, nI d1) ∧ 0 < n1 ∧ n1 ∣ M ∧ 0 < l1 ∧ l1 ∣ n1 ∧ 2 ≤ d1 ∧ d1 ≤ 10301 ∧ l1 ≤ M) (fun o => ∃ n1, o.1 = nI n1 ∧ 0 < n1 ∧ n1 ∣ M) (fun s => 10302 - s.2.2.toNatClampNeg) (by
    rintro _ ⟨n1, l1, d1, rfl, j1, j2, j3, j4, j5, j6, j7⟩
    have hn1 : n1 ≤ M := Nat.le_of_dvd hM0 j2
    dsimp only [mX6_orderOf_b17, mi_let]
    by_cases c : l1 < d1
    · right
      rw [if_pos (nI_lt c (by omega))]
      exact ⟨_, rfl, n1, rfl, j1, j2⟩
    · left
      rw [if_neg (nI_nlt (by omega) (by omega))]
      obtain ⟨n', l', e, i1, i2, i3, i4, i5⟩ := ord23 N hN P h1 hP a f q d1 j5 j6 n1 l1 j1 (by omega) j3 j4
      rw [e]; simp only [Option.bind_some]
      refine ⟨_, rfl, ⟨n', l', d1 + 1, by rw [nI_1], i1, Nat.dvd_trans i2 j2, i3, i4, by omega, by omega, by omega⟩, ?_⟩
      show 10302 - (nI d1 + 1).toNatClampNeg < 10302 - (nI d1).toNatClampNeg
      rw [nI_1, nI_clamp (by omega), nI_clamp (by omega)]; omega) N (nI M, nI M, 2) ⟨M, M, 2, rfl, hM0, Nat.dvd_refl M, hM0, Nat.dvd_refl M, by omega, by omega, Nat.le_refl M⟩ (by show 10302 - (2 : Int32).toNatClampNeg < N; omega)
  obtain ⟨o1, o2, o3⟩ := o
  have eo : o1 = nI n := eo
  exact ⟨n, o2, o3, by rw [ho, eo], k1, k2⟩
theorem CU.pos {P A B : Nat} {p a b rt pm : Int32} {f g pts ah : Nat → Int32} (h : CU P A B p a b rt pm f g pts ah) : 1 ≤ P ∧ P ≤ 10007 ∧ 5 ≤ P ∧ isp P ∧ A < P ∧ B < P := by
  obtain ⟨-, -, -, -, hp, h5, hP, hA, hB, -⟩ := h
  exact ⟨by omega, hP, h5, hp, hA, hB⟩
theorem CU.listed {P A B : Nat} {p a b rt pm : Int32} {f g pts ah pts' ah' : Nat → Int32} (h : CU P A B p a b rt pm f g pts ah) (hL : LK P A B P pts' ah') : CU P A B p a b rt (nI (cnt P A B P)) f g pts' ah' := by
  obtain ⟨q1, q2, q3, q4, q5, q6, q7, q8, q9, q10, q11, -⟩ := h
  exact ⟨q1, q2, q3, q4, q5, q6, q7, q8, q9, q10, q11, Or.inr ⟨rfl, hL⟩⟩
theorem listE (N : Nat) (hN : 20000 ≤ N) {P A B : Nat} {rt pm : Int32} {f g pts ah : Nat → Int32} (h : CU P A B (nI P) (nI A) (nI B) rt pm f g pts ah) : ∃ pts' ah', mX6_list N (nI P) (nI A) (nI B) pm g pts ah = some (nI (cnt P A B P), pts', ah') ∧ CU P A B (nI P) (nI A) (nI B) rt (nI (cnt P A B P)) f g pts' ah' ∧ LK P A B P pts' ah' := by
  obtain ⟨pts', ah', e, hL⟩ := list_spec N hN h
  exact ⟨pts', ah', e, h.listed hL, hL⟩
theorem cnt_b {P A B : Nat} {p a b rt pm : Int32} {f g pts ah : Nat → Int32} (h : CU P A B p a b rt pm f g pts ah) : 0 < cnt P A B P ∧ cnt P A B P ≤ 10298 := ⟨cnt_pos P A B P, cnt_10300 h.pos.2.2.2.1 h.pos.2.2.1 h.pos.2.1⟩
theorem orderE (N : Nat) (hN : 2 ^ 64 ≤ N) {P A B : Nat} {rt pm : Int32} {f g pts ah : Nat → Int32} (h : CU P A B (nI P) (nI A) (nI B) rt pm f g pts ah) (q : Int32) : ∃ n pts' ah', mX6_orderOf N (nI P) (nI A) (nI B) pm f g pts ah q = some (nI n, nI (cnt P A B P), pts', ah') ∧ 0 < n ∧ n ∣ cnt P A B P ∧ n ≤ 10298 ∧ CU P A B (nI P) (nI A) (nI B) rt (nI (cnt P A B P)) f g pts' ah' ∧ LK P A B P pts' ah' := by
  obtain ⟨pts', ah', e, hC, hL⟩ := listE N (by omega) h
  have hc := cnt_b h
  obtain ⟨n, l, d, e2, h0, hd⟩ := ord17 N hN P h.pos.1 h.pos.2.1 (nI A) f q (cnt P A B P) hc.1 (by omega)
  refine ⟨n, pts', ah', ?_, h0, hd, Nat.le_trans (Nat.le_of_dvd hc.1 hd) hc.2, hC, hL⟩
  unfold mX6_orderOf
  rw [e]; simp only [Option.bind_some]
  rw [e2]; rfl
theorem least7 (N : Nat) (hN : 2 ^ 64 ≤ N) (P : Nat) (h1 : 1 ≤ P) (hP : P ≤ 10007) : ∃ z, mX6_least N (nI P) = some z := by
  unfold mX6_least
  dsimp only [mi_let]
  obtain ⟨o, ho, -⟩ := mi_run_ok (mX6_least_b7 N (nI P)) (fun s => ∃ k, k ≤ P + 1 ∧ s = nI k ∧ P ≤ k + 300) (fun _ => True) (fun s => s.toNatClampNeg) (by
    rintro _ ⟨k, hk, rfl, hk2⟩
    dsimp only [mX6_least_b7, mX6_isBound, mi_let]
    by_cases c : 0 < lg_cmp ((((nI k - 1).toInt64 - (nI P).toInt64) - 1) * (((nI k - 1).toInt64 - (nI P).toInt64) - 1)) (4 * (nI P).toInt64)
    · right
      rw [if_pos c]; simp only [Option.bind_some]
      rw [if_pos trivial]; exact ⟨_, rfl, trivial⟩
    · left
      rw [if_neg c]; simp only [Option.bind_some]
      rw [if_neg (by decide)]
      have hk1 : (nI k - 1).toInt = (k : Int) - 1 := by
        rw [Int32.toInt_sub, nI_toInt (by omega), show (1 : Int32).toInt = 1 by decide, Int.bmod_eq_of_le (by omega) (by omega)]
      have hv : (((nI k - 1).toInt64 - (nI P).toInt64) - 1).toInt = (k : Int) - 2 - P := by
        rw [Int64.toInt_sub, lg_i2l_sub, hk1, nI_toInt (by omega), show (1 : Int64).toInt = 1 by decide, Int.bmod_eq_of_le (by omega) (by omega)]; omega
      have hkp : 0 < k := Nat.pos_of_ne_zero fun e => by
        subst e
        refine c ((lg_cmp_gt _ _).mpr (Int64.lt_iff_toInt_lt.mpr ?_))
        rw [Int64.toInt_mul, Int64.toInt_mul, hv, nIl_toInt (by omega), show (4 : Int64).toInt = 4 by decide]
        have hs : (((0 : Nat) : Int) - 2 - P) * (((0 : Nat) : Int) - 2 - P) = P * P + 4 * P + 4 := by grind
        have hb : (P : Int) * P ≤ 100140049 := by
          have : P * P ≤ 10007 * 10007 := Nat.mul_le_mul hP hP
          omega
        have hb0 : (0 : Int) ≤ (P : Int) * P := Int.mul_nonneg (by omega) (by omega)
        rw [hs, Int.bmod_eq_of_le (by omega) (by omega), Int.bmod_eq_of_le (by omega) (by omega)]; omega
      have hk3 : P ≤ k - 1 + 300 := by
        refine Nat.le_of_not_lt fun hlt => c ((lg_cmp_gt _ _).mpr (Int64.lt_iff_toInt_lt.mpr ?_))
        rw [Int64.toInt_mul, Int64.toInt_mul, hv, nIl_toInt (by omega), show (4 : Int64).toInt = 4 by decide]
        obtain ⟨t, ht1, ht2⟩ : ∃ t : Nat, (k : Int) - 2 - P = -(t : Int) ∧ 301 ≤ t := ⟨P + 2 - k, by omega, by omega⟩
        have ht3 : t ≤ 302 := by omega
        rw [ht1]
        have hs : -(t : Int) * -(t : Int) = ((t * t : Nat) : Int) := by push_cast; grind
        have hb := Nat.mul_le_mul ht2 ht2
        have hb2 := Nat.mul_le_mul ht3 ht3
        rw [hs, Int.bmod_eq_of_le (by omega) (by omega), Int.bmod_eq_of_le (by omega) (by omega)]; omega
      obtain ⟨j, rfl⟩ : ∃ j, k = j + 1 := ⟨k - 1, by omega⟩
      refine ⟨_, rfl, ⟨j, by omega, pk_m1 j, by omega⟩, ?_⟩
      rw [pk_m1, nI_clamp (by omega), nI_clamp (by omega)]; omega) N (nI P + 1) ⟨P + 1, Nat.le_refl _, nI_1 P, by omega⟩ (by rw [nI_1, nI_clamp (by omega)]; omega)
  rw [ho]; exact ⟨_, rfl⟩
def leastF (N P : Nat) : Int32 := (mX6_least N (nI P)).getD 0
theorem leastE {N : Nat} (hN : 2 ^ 64 ≤ N) {P : Nat} (h1 : 1 ≤ P) (hP : P ≤ 10007) : mX6_least N (nI P) = some (leastF N P) := by
  obtain ⟨x, e⟩ := least7 N hN P h1 hP
  unfold leastF; rw [e]; rfl
theorem provesE (N : Nat) (hN : 2 ^ 64 ≤ N) {P A B : Nat} {rt pm : Int32} {f g pts ah : Nat → Int32} (h : CU P A B (nI P) (nI A) (nI B) rt pm f g pts ah) (q : Int32) : ∃ z pts' ah', mX6_proves N (nI P) (nI A) (nI B) pm f g pts ah q = some (z, nI (cnt P A B P), pts', ah') ∧ CU P A B (nI P) (nI A) (nI B) rt (nI (cnt P A B P)) f g pts' ah' ∧ LK P A B P pts' ah' := by
  obtain ⟨n, pts', ah', e, h0, -, hn, hC, hL⟩ := orderE N hN h q
  have hz : ¬ nI n = 0 := nI_ne0 h0 (by omega)
  unfold mX6_proves
  rw [e]; simp only [Option.bind_some]
  rw [leastE hN h.pos.1 h.pos.2.1]; simp only [Option.bind_some]
  dsimp only [mi_let]
  rw [if_neg hz, if_neg hz]
  by_cases c : ((2 * nI P + 2 - leastF N P) / nI n - (leastF N P - 1) / nI n) = 1
  · rw [if_pos c]; exact ⟨1, pts', ah', rfl, hC, hL⟩
  · rw [if_neg c]; exact ⟨0, pts', ah', rfl, hC, hL⟩
