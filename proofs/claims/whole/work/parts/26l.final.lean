def agr (P : Nat) (n n' : Int32) : Prop := ∀ c, c ≤ 2 * P + 2 → (nI c = n ↔ nI c = n')
theorem nh_agr {P : Nat} {n n' : Int32} (h : agr P n n') {c : Nat} (hc : c ≤ 2 * P + 2) : nh n c = nh n' c := by
  unfold nh
  by_cases q : nI c = n
  · rw [if_pos q, if_pos ((h c hc).mp q)]
  · rw [if_neg q, if_neg (fun z => q ((h c hc).mpr z))]
theorem sumA_agr {P : Nat} {n n' : Int32} (h : agr P n n') (k : Nat) : sumA P n k = sumA P n' k := by
  induction k with
  | zero => rfl
  | succ k ih =>
    have hc := cnt_le P 0 (k + 1) P
    show sumA P n k + nh n _ = sumA P n' k + nh n' _
    rw [ih, nh_agr h (by omega)]
theorem sumB_agr {P : Nat} {n n' : Int32} (h : agr P n n') (k : Nat) : sumB P n k = sumB P n' k := by
  induction k with
  | zero => rfl
  | succ k ih =>
    have hc := cnt_le P (k + 1) 0 P
    show sumB P n k + nh n _ = sumB P n' k + nh n' _
    rw [ih, nh_agr h (by omega)]
theorem sumK_agr {P : Nat} {n n' : Int32} (h : agr P n n') (k : Nat) : sumK P n k = sumK P n' k := by
  induction k with
  | zero => rfl
  | succ k ih =>
    have hc := cK_le P (k + 1)
    show sumK P n k + (P - 1) / 2 * nh n _ + (P - 1) / 2 * nh n _ = sumK P n' k + (P - 1) / 2 * nh n' _ + (P - 1) / 2 * nh n' _
    rw [ih, nh_agr h (show cK P (k + 1) ≤ 2 * P + 2 by omega), nh_agr h (show 2 * P + 2 - cK P (k + 1) ≤ 2 * P + 2 by omega)]
theorem sumJ_agr {P : Nat} {n n' : Int32} (h : agr P n n') (k : Nat) : sumJ P n k = sumJ P n' k := by
  induction k with
  | zero => rfl
  | succ k ih =>
    have hc := cK_le P (k + 1)
    have h1 := h (cK P (k + 1)) (by omega)
    have h2 := h (2 * P + 2 - cK P (k + 1)) (by omega)
    show sumJ P n k + (if nI (cK P (k + 1)) = n ∨ nI (2 * P + 2 - cK P (k + 1)) = n then 1 else 0) = sumJ P n' k + (if nI (cK P (k + 1)) = n' ∨ nI (2 * P + 2 - cK P (k + 1)) = n' then 1 else 0)
    rw [ih]
    by_cases q : nI (cK P (k + 1)) = n ∨ nI (2 * P + 2 - cK P (k + 1)) = n
    · rw [if_pos q, if_pos (q.elim (fun z => Or.inl (h1.mp z)) (fun z => Or.inr (h2.mp z)))]
    · rw [if_neg q, if_neg (fun z => q (z.elim (fun z => Or.inl (h1.mpr z)) (fun z => Or.inr (h2.mpr z))))]
theorem stp_agr {P : Nat} {n n' : Int32} (h : agr P n n') (J : Bool) (a b : Nat) (s : Nat × (Nat → Int32)) : stp P n J a b s = stp P n' J a b s := by
  have hc := cnt_le P a b P
  unfold stp
  by_cases hd : disc P a b = 0
  · rw [if_pos hd, if_pos hd]
  · rw [if_neg hd, if_neg hd]
    by_cases q : nI (cnt P a b P) = n
    · rw [if_pos q, if_pos ((h _ (by omega)).mp q)]
    · rw [if_neg q, if_neg (fun z => q ((h _ (by omega)).mpr z))]
theorem ascF_agr {P : Nat} {n n' : Int32} (h : agr P n n') (J : Bool) (s : Nat × (Nat → Int32)) (k : Nat) : ascF P n J s k = ascF P n' J s k := by
  induction k with
  | zero => rfl
  | succ k ih =>
    show stp P n J _ _ (ascF P n J s k) = stp P n' J _ _ (ascF P n' J s k)
    rw [ih, stp_agr h]
theorem fin_all {Q P T : Nat} (hQ : chkQ Q P = true) (hT : chkT Q P T = true) (hN : chkN P T = true) (h5 : 5 ≤ P) (hP : P ≤ 61) (n : Int32) (S0 : Nat → Int32) (h0 : ∀ v, v < P → S0 v = 0) : (allF P n false (0, S0) P).1 = censC P n ∧ (allF P n true (0, S0) P).1 = kindC P n := by
  by_cases hm : ∃ m, m < 2 * P + 4 ∧ n = nI m
  · obtain ⟨m, hm, e⟩ := hm
    subst e
    exact fin_nI hQ hT hN h5 hP m hm S0 h0
  · have ha : agr P n (nI (2 * P + 3)) := by
      intro c hc
      constructor
      · intro q
        exact absurd ⟨c, by omega, q.symm⟩ hm
      · intro q
        rw [nI_eq (by omega) (by omega)] at q
        omega
    have h := fin_nI hQ hT hN h5 hP (2 * P + 3) (by omega) S0 h0
    rw [all_asc P (by omega)] at h
    rw [all_asc P (by omega)] at h
    rw [all_asc P (by omega), all_asc P (by omega), ascF_agr ha, ascF_agr ha]
    unfold censC kindC at *
    rw [sumA_agr ha, sumB_agr ha, sumK_agr ha, sumJ_agr ha]
    exact h
theorem small_primes : (List.range 62).all (fun P => decide (P < 5) || ([5, 7, 11, 13, 17, 19, 23, 29, 31, 37, 41, 43, 47, 53, 59, 61].contains P || [2, 3, 5, 7].any (fun d => decide (2 ≤ d) && (decide (d * d ≤ P) && P % d == 0)))) = true := by decide
theorem fin_prime (P : Nat) (h5 : 5 ≤ P) (hP : P ≤ 61) (hp : isp P) (n : Int32) (S0 : Nat → Int32) (h0 : ∀ v, v < P → S0 v = 0) : (allF P n false (0, S0) P).1 = censC P n ∧ (allF P n true (0, S0) P).1 = kindC P n := by
  have h := List.all_eq_true.mp small_primes P (List.mem_range.mpr (by omega))
  rw [decide_eq_false (by omega : ¬ P < 5), Bool.false_or, Bool.or_eq_true] at h
  rcases h with h | h
  · have hm : P ∈ [5, 7, 11, 13, 17, 19, 23, 29, 31, 37, 41, 43, 47, 53, 59, 61] := by simpa using h
    simp only [List.mem_cons, List.not_mem_nil, or_false] at hm
    rcases hm with rfl | rfl | rfl | rfl | rfl | rfl | rfl | rfl | rfl | rfl | rfl | rfl | rfl | rfl | rfl | rfl
    · exact fin_all okQ5 okT5 okN5 h5 hP n S0 h0
    · exact fin_all okQ7 okT7 okN7 h5 hP n S0 h0
    · exact fin_all okQ11 okT11 okN11 h5 hP n S0 h0
    · exact fin_all okQ13 okT13 okN13 h5 hP n S0 h0
    · exact fin_all okQ17 okT17 okN17 h5 hP n S0 h0
    · exact fin_all okQ19 okT19 okN19 h5 hP n S0 h0
    · exact fin_all okQ23 okT23 okN23 h5 hP n S0 h0
    · exact fin_all okQ29 okT29 okN29 h5 hP n S0 h0
    · exact fin_all okQ31 okT31 okN31 h5 hP n S0 h0
    · exact fin_all okQ37 okT37 okN37 h5 hP n S0 h0
    · exact fin_all okQ41 okT41 okN41 h5 hP n S0 h0
    · exact fin_all okQ43 okT43 okN43 h5 hP n S0 h0
    · exact fin_all okQ47 okT47 okN47 h5 hP n S0 h0
    · exact fin_all okQ53 okT53 okN53 h5 hP n S0 h0
    · exact fin_all okQ59 okT59 okN59 h5 hP n S0 h0
    · exact fin_all okQ61 okT61 okN61 h5 hP n S0 h0
  · obtain ⟨d, -, hd⟩ := List.any_eq_true.mp h
    rw [Bool.and_eq_true, Bool.and_eq_true] at hd
    exact absurd (beq_iff_eq.mp hd.2.2) (hp d (of_decide_eq_true hd.1) (of_decide_eq_true hd.2.1))
/-- census and kinds, from any tables: both answer, and alike -/
theorem l1_cen (N : Nat) (hN : 20000 ≤ N) (p n : Int32) : ∃ r u f x, mX5_census N 0 (fun _ => 0) p n = some (r, u, f) ∧ mX6_census N 0 0 0 0 0 (fun _ => 0) (fun _ => 0) (fun _ => 0) p n = some (r, x) := by
  unfold mX6_census
  rcases censusC_cases N hN p n 0 (fun _ => 0) (Or.inl rfl) with ⟨P, hF, h61, ⟨p1, g1, e1⟩, -⟩ | ⟨hn, e1, -⟩
  · obtain ⟨e, h5, hP, hp⟩ := hF
    subst e
    obtain ⟨S0, x, h0, e2⟩ := allM_in N hN P h5 h61 hp n false 0 rfl 0 0 0 0 0 (fun _ => 0) (fun _ => 0) (fun _ => 0) (Or.inl rfl)
    rw [e2, (fin_prime P h5 h61 hp n S0 h0).1]
    exact ⟨_, _, _, _, e1, rfl⟩
  · rw [allM_out N hN p n 0 hn]
    exact ⟨_, _, _, _, e1, rfl⟩
theorem l1_kin (N : Nat) (hN : 20000 ≤ N) (p n : Int32) : ∃ r u f x, mX5_kinds N 0 (fun _ => 0) p n = some (r, u, f) ∧ mX6_kinds N 0 0 0 0 0 (fun _ => 0) (fun _ => 0) (fun _ => 0) p n = some (r, x) := by
  unfold mX6_kinds
  rcases censusC_cases N hN p n 0 (fun _ => 0) (Or.inl rfl) with ⟨P, hF, h61, -, ⟨p1, g1, e1⟩⟩ | ⟨hn, -, e1⟩
  · obtain ⟨e, h5, hP, hp⟩ := hF
    subst e
    obtain ⟨S0, x, h0, e2⟩ := allM_in N hN P h5 h61 hp n true 1 rfl 0 0 0 0 0 (fun _ => 0) (fun _ => 0) (fun _ => 0) (Or.inl rfl)
    rw [e2, (fin_prime P h5 h61 hp n S0 h0).2]
    exact ⟨_, _, _, _, e1, rfl⟩
  · rw [allM_out N hN p n 1 hn]
    exact ⟨_, _, _, _, e1, rfl⟩
theorem l1_t_X5_census (N : Nat) (hN : 20000 ≤ N) (p n : Int32) : ∃ z, mX5_census N 0 (fun _ => 0) p n = some z := by
  obtain ⟨r, u, f, x, h, -⟩ := l1_cen N hN p n
  exact ⟨_, h⟩
theorem l1_t_X6_census (N : Nat) (hN : 20000 ≤ N) (p n : Int32) : ∃ z, mX6_census N 0 0 0 0 0 (fun _ => 0) (fun _ => 0) (fun _ => 0) p n = some z := by
  obtain ⟨r, u, f, x, -, h⟩ := l1_cen N hN p n
  exact ⟨_, h⟩
theorem l1_eq_census (N : Nat) (hN : 20000 ≤ N) {p n r t u x0 x1 x2 x3 x4 : Int32} {f0 f1 f2 f3 : Nat → Int32} (h1 : mX5_census N 0 (fun _ => 0) p n = some (r, u, f0)) (h2 : mX6_census N 0 0 0 0 0 (fun _ => 0) (fun _ => 0) (fun _ => 0) p n = some (t, x0, x1, x2, x3, x4, f1, f2, f3)) : r = t := by
  obtain ⟨q, v, f, x, e1, e2⟩ := l1_cen N hN p n
  have a1 : q = r := congrArg Prod.fst (Option.some.inj (e1.symm.trans h1))
  have a2 : q = t := congrArg Prod.fst (Option.some.inj (e2.symm.trans h2))
  rw [← a1, a2]
theorem l1_t_X5_kinds (N : Nat) (hN : 20000 ≤ N) (p n : Int32) : ∃ z, mX5_kinds N 0 (fun _ => 0) p n = some z := by
  obtain ⟨r, u, f, x, h, -⟩ := l1_kin N hN p n
  exact ⟨_, h⟩
theorem l1_t_X6_kinds (N : Nat) (hN : 20000 ≤ N) (p n : Int32) : ∃ z, mX6_kinds N 0 0 0 0 0 (fun _ => 0) (fun _ => 0) (fun _ => 0) p n = some z := by
  obtain ⟨r, u, f, x, -, h⟩ := l1_kin N hN p n
  exact ⟨_, h⟩
theorem l1_eq_kinds (N : Nat) (hN : 20000 ≤ N) {p n r t u x0 x1 x2 x3 x4 : Int32} {f0 f1 f2 f3 : Nat → Int32} (h1 : mX5_kinds N 0 (fun _ => 0) p n = some (r, u, f0)) (h2 : mX6_kinds N 0 0 0 0 0 (fun _ => 0) (fun _ => 0) (fun _ => 0) p n = some (t, x0, x1, x2, x3, x4, f1, f2, f3)) : r = t := by
  obtain ⟨q, v, f, x, e1, e2⟩ := l1_kin N hN p n
  have a1 : q = r := congrArg Prod.fst (Option.some.inj (e1.symm.trans h1))
  have a2 : q = t := congrArg Prod.fst (Option.some.inj (e2.symm.trans h2))
  rw [← a1, a2]
