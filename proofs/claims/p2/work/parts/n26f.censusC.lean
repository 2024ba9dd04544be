def nh (n : Int32) (m : Nat) : Nat := if nI m = n then 1 else 0
theorem nh_t {n : Int32} {m : Nat} (h : nI m = n) : nh n m = 1 := if_pos h
theorem nh_f {n : Int32} {m : Nat} (h : ¬ nI m = n) : nh n m = 0 := if_neg h
def sumA (P : Nat) (n : Int32) : Nat → Nat
  | 0 => 0
  | k + 1 => sumA P n k + nh n (cnt P 0 (k + 1) P)
def sumB (P : Nat) (n : Int32) : Nat → Nat
  | 0 => 0
  | k + 1 => sumB P n k + nh n (cnt P (k + 1) 0 P)
def cK (P k : Nat) : Nat := cnt P (3 * k % P) (2 * k % P) P
def sumK (P : Nat) (n : Int32) : Nat → Nat
  | 0 => 0
  | k + 1 => sumK P n k + (P - 1) / 2 * nh n (cK P (k + 1)) + (P - 1) / 2 * nh n (2 * P + 2 - cK P (k + 1))
def sumJ (P : Nat) (n : Int32) : Nat → Nat
  | 0 => 0
  | k + 1 => sumJ P n k + (if nI (cK P (k + 1)) = n ∨ nI (2 * P + 2 - cK P (k + 1)) = n then 1 else 0)
def censC (P : Nat) (n : Int32) : Nat := sumA P n (P - 1) + sumB P n (P - 1) + sumK P n (P - 2)
def kindC (P : Nat) (n : Int32) : Nat := (if sumA P n (P - 1) = 0 then 0 else 1) + (if sumB P n (P - 1) = 0 then 0 else 1) + sumJ P n (P - 2)
theorem nh_le (n : Int32) (m : Nat) : nh n m ≤ 1 := by
  unfold nh
  by_cases h : nI m = n
  · rw [if_pos h]
    omega
  · rw [if_neg h]
    omega
theorem sumA_le (P : Nat) (n : Int32) (k : Nat) : sumA P n k ≤ k := by
  induction k with
  | zero => exact Nat.le_refl _
  | succ k ih =>
    have h := nh_le n (cnt P 0 (k + 1) P)
    show sumA P n k + nh n (cnt P 0 (k + 1) P) ≤ k + 1
    omega
theorem sumB_le (P : Nat) (n : Int32) (k : Nat) : sumB P n k ≤ k := by
  induction k with
  | zero => exact Nat.le_refl _
  | succ k ih =>
    have h := nh_le n (cnt P (k + 1) 0 P)
    show sumB P n k + nh n (cnt P (k + 1) 0 P) ≤ k + 1
    omega
theorem withoutA_spec (N : Nat) (hN : 20000 ≤ N) (P : Nat) (h5 : 5 ≤ P) (hP : P ≤ 10007) (n pr : Int32) (g : Nat → Int32) (ht : tabC pr g) : ∃ pr' g', mX3_manyWithoutA N pr g (nI P) n = some (nI (sumA P n (P - 1)), pr', g') ∧ tabC pr' g' := by
  obtain ⟨o, e, q1, q2⟩ := mi_run_ok (mX3_manyWithoutA_b5 N (nI P) n) (fun s => ∃ k, s.2.1 = nI (k + 1) ∧ k + 1 ≤ P ∧ s.1 = nI (sumA P n k) ∧ tabC s.2.2.1 s.2.2.2) (fun o => o.1 = nI (sumA P n (P - 1)) ∧ tabC o.2.2.1 o.2.2.2) (fun s => 15000 - s.2.1.toNatClampNeg) (by
    intro ⟨x, y, z, g⟩ ⟨k, ey, hk, ex, htt⟩
    dsimp only at ey ex htt
    subst ey
    subst ex
    dsimp only [mX3_manyWithoutA_b5, mi_let]
    rcases Nat.lt_or_ge (k + 1) P with hlt | hge
    · left
      obtain ⟨pr', g', e, ht'⟩ := manyPoints_spec N hN P h5 hP 0 (k + 1) (by omega) hlt z g htt
      have e' : mX3_manyPoints N z g (nI P) 0 (nI (k + 1)) = some (nI (cnt P 0 (k + 1) P), pr', g') := e
      refine ⟨(nI (sumA P n (k + 1)), nI (k + 1 + 1), pr', g'), ?_, ⟨k + 1, rfl, by omega, rfl, ht'⟩, ?_⟩
      · rw [if_neg (nI_ge hlt (by omega)), e']
        show (if nI (cnt P 0 (k + 1) P) = n then some (Sum.inl (nI (sumA P n k) + 1, nI (k + 1) + 1, pr', g')) else some (Sum.inl (nI (sumA P n k) + 0, nI (k + 1) + 1, pr', g'))) = _
        by_cases h : nI (cnt P 0 (k + 1) P) = n
        · rw [if_pos h, nI_1, nI_1, show sumA P n (k + 1) = sumA P n k + 1 from congrArg _ (nh_t h)]
        · rw [if_neg h, nI_1, Int32.add_zero, show sumA P n (k + 1) = sumA P n k by show sumA P n k + nh n _ = _; rw [nh_f h, Nat.add_zero]]
      · show 15000 - (nI (k + 1 + 1)).toNatClampNeg < 15000 - (nI (k + 1)).toNatClampNeg
        rw [nI_clamp (by omega), nI_clamp (by omega)]
        omega
    · right
      have e : P - 1 = k := by omega
      rw [if_pos (nI_le hge (by omega)), e]
      exact ⟨_, rfl, rfl, htt⟩) N (0, 1, pr, g) ⟨0, rfl, by omega, rfl, ht⟩ (by
    show 15000 - (nI 1).toNatClampNeg < N
    rw [nI_clamp (by omega)]
    omega)
  obtain ⟨o1, o2, o3, o4⟩ := o
  refine ⟨o3, o4, ?_, q2⟩
  unfold mX3_manyWithoutA
  rw [e]
  dsimp only at q1
  rw [← q1]
  rfl
theorem withoutB_spec (N : Nat) (hN : 20000 ≤ N) (P : Nat) (h5 : 5 ≤ P) (hP : P ≤ 10007) (n pr : Int32) (g : Nat → Int32) (ht : tabC pr g) : ∃ pr' g', mX3_manyWithoutB N pr g (nI P) n = some (nI (sumB P n (P - 1)), pr', g') ∧ tabC pr' g' := by
  obtain ⟨o, e, q1, q2⟩ := mi_run_ok (mX3_manyWithoutB_b5 N (nI P) n) (fun s => ∃ k, s.2.1 = nI (k + 1) ∧ k + 1 ≤ P ∧ s.1 = nI (sumB P n k) ∧ tabC s.2.2.1 s.2.2.2) (fun o => o.1 = nI (sumB P n (P - 1)) ∧ tabC o.2.2.1 o.2.2.2) (fun s => 15000 - s.2.1.toNatClampNeg) (by
    intro ⟨x, y, z, g⟩ ⟨k, ey, hk, ex, htt⟩
    dsimp only at ey ex htt
    subst ey
    subst ex
    dsimp only [mX3_manyWithoutB_b5, mi_let]
    rcases Nat.lt_or_ge (k + 1) P with hlt | hge
    · left
      obtain ⟨pr', g', e, ht'⟩ := manyPoints_spec N hN P h5 hP (k + 1) 0 hlt (by omega) z g htt
      have e' : mX3_manyPoints N z g (nI P) (nI (k + 1)) 0 = some (nI (cnt P (k + 1) 0 P), pr', g') := e
      refine ⟨(nI (sumB P n (k + 1)), nI (k + 1 + 1), pr', g'), ?_, ⟨k + 1, rfl, by omega, rfl, ht'⟩, ?_⟩
      · rw [if_neg (nI_ge hlt (by omega)), e']
        show (if nI (cnt P (k + 1) 0 P) = n then some (Sum.inl (nI (sumB P n k) + 1, nI (k + 1) + 1, pr', g')) else some (Sum.inl (nI (sumB P n k) + 0, nI (k + 1) + 1, pr', g'))) = _
        by_cases h : nI (cnt P (k + 1) 0 P) = n
        · rw [if_pos h, nI_1, nI_1, show sumB P n (k + 1) = sumB P n k + 1 from congrArg _ (nh_t h)]
        · rw [if_neg h, nI_1, Int32.add_zero, show sumB P n (k + 1) = sumB P n k by show sumB P n k + nh n _ = _; rw [nh_f h, Nat.add_zero]]
      · show 15000 - (nI (k + 1 + 1)).toNatClampNeg < 15000 - (nI (k + 1)).toNatClampNeg
        rw [nI_clamp (by omega), nI_clamp (by omega)]
        omega
    · right
      have e : P - 1 = k := by omega
      rw [if_pos (nI_le hge (by omega)), e]
      exact ⟨_, rfl, rfl, htt⟩) N (0, 1, pr, g) ⟨0, rfl, by omega, rfl, ht⟩ (by
    show 15000 - (nI 1).toNatClampNeg < N
    rw [nI_clamp (by omega)]
    omega)
  obtain ⟨o1, o2, o3, o4⟩ := o
  refine ⟨o3, o4, ?_, q2⟩
  unfold mX3_manyWithoutB
  rw [e]
  dsimp only at q1
  rw [← q1]
  rfl
theorem cK_le (P k : Nat) : cK P k ≤ 2 * P + 1 := cnt_le P _ _ P
theorem pairsK_spec (N : Nat) (hN : 20000 ≤ N) (P : Nat) (h5 : 5 ≤ P) (hP : P ≤ 10007) (n pr : Int32) (s0 : Nat) (g : Nat → Int32) (ht : tabC pr g) : ∃ o, mi_run (mX3_pairsWith_b17 N (nI P) n) N (nI s0, 1, pr, g) = some o ∧ o.1 = nI (s0 + sumK P n (P - 2)) ∧ tabC o.2.2.1 o.2.2.2 := by
  have h1 : 1 ≤ P := by omega
  have eP1 : nI P - 1 = nI (P - 1) := pk_sub (a := P) (b := 1) h1
  have eH : nI (P - 1) / 2 = nI ((P - 1) / 2) := pk_div (d := 2) (by omega) (by omega) (by omega)
  refine mi_run_ok (mX3_pairsWith_b17 N (nI P) n) (fun s => ∃ k, s.2.1 = nI (k + 1) ∧ k + 2 ≤ P ∧ s.1 = nI (s0 + sumK P n k) ∧ tabC s.2.2.1 s.2.2.2) (fun o => o.1 = nI (s0 + sumK P n (P - 2)) ∧ tabC o.2.2.1 o.2.2.2) (fun s => 15000 - s.2.1.toNatClampNeg) ?_ N (nI s0, 1, pr, g) ⟨0, rfl, by omega, rfl, ht⟩ ?_
  · intro ⟨x, y, z, g⟩ ⟨k, ey, hk, ex, htt⟩
    dsimp only at ey ex htt
    subst ey
    subst ex
    dsimp only [mX3_pairsWith_b17, mi_let]
    rw [eP1]
    rcases Nat.lt_or_ge (k + 1) (P - 1) with hlt | hge
    · left
      have h3 : 3 * (k + 1) % P < P := Nat.mod_lt _ h1
      have h2 : 2 * (k + 1) % P < P := Nat.mod_lt _ h1
      obtain ⟨pr', g', e, ht'⟩ := manyPoints_spec N hN P h5 hP (3 * (k + 1) % P) (2 * (k + 1) % P) h3 h2 z g htt
      have e' : mX3_manyPoints N z g (nI P) (nI (3 * (k + 1) % P)) (nI (2 * (k + 1) % P)) = some (nI (cK P (k + 1)), pr', g') := e
      have hc := cK_le P (k + 1)
      refine ⟨(nI (s0 + sumK P n (k + 1)), nI (k + 1 + 1), pr', g'), ?_, ⟨k + 1, rfl, by omega, rfl, ht'⟩, ?_⟩
      · rw [if_neg (nI_ge hlt (by omega)), if_neg (nz_nI h1 hP), if_neg (nz_nI h1 hP), show (3 : Int32) = nI 3 from rfl, show (2 : Int32) * nI (k + 1) = nI (2 * (k + 1)) from pk_mul 2 (k + 1), pk_mul, rem_nI (by omega) h1 (by omega), rem_nI (by omega) h1 (by omega), e']
        have eT : (2 : Int32) * nI P + 2 - nI (cK P (k + 1)) = nI (2 * P + 2 - cK P (k + 1)) := by
          rw [show (2 : Int32) * nI P = nI (2 * P) from pk_mul 2 P, show nI (2 * P) + 2 = nI (2 * P + 2) from nI_add (2 * P) 2, pk_sub (by omega)]
        have eS : sumK P n (k + 1) = sumK P n k + (P - 1) / 2 * nh n (cK P (k + 1)) + (P - 1) / 2 * nh n (2 * P + 2 - cK P (k + 1)) := rfl
        dsimp only [Option.bind]
        rw [eH, eT, eS]
        by_cases ha : nI (cK P (k + 1)) = n
        · rw [if_pos ha, nh_t ha]
          by_cases hb : nI (2 * P + 2 - cK P (k + 1)) = n
          · rw [if_pos hb, nh_t hb, nI_add, nI_add, nI_1]
            congr 4 <;> omega
          · rw [if_neg hb, nh_f hb, nI_add, Int32.add_zero, nI_1]
            congr 4 <;> omega
        · rw [if_neg ha, nh_f ha]
          by_cases hb : nI (2 * P + 2 - cK P (k + 1)) = n
          · rw [if_pos hb, nh_t hb, Int32.add_zero, nI_add, nI_1]
            congr 4 <;> omega
          · rw [if_neg hb, nh_f hb, Int32.add_zero, Int32.add_zero, nI_1]
            congr 4 <;> omega
      · show 15000 - (nI (k + 1 + 1)).toNatClampNeg < 15000 - (nI (k + 1)).toNatClampNeg
        rw [nI_clamp (by omega), nI_clamp (by omega)]
        omega
    · right
      have e : P - 2 = k := by omega
      rw [if_pos (nI_le hge (by omega)), e]
      exact ⟨_, rfl, rfl, htt⟩
  · show 15000 - (nI 1).toNatClampNeg < N
    rw [nI_clamp (by omega)]
    omega
theorem pairs_spec (N : Nat) (hN : 20000 ≤ N) (P : Nat) (h5 : 5 ≤ P) (hP : P ≤ 10007) (n pr : Int32) (g : Nat → Int32) (ht : tabC pr g) : ∃ pr' g', mX3_pairsWith N pr g (nI P) n = some (nI (censC P n), pr', g') ∧ tabC pr' g' := by
  obtain ⟨p1, g1, e1, t1⟩ := withoutA_spec N hN P h5 hP n pr g ht
  obtain ⟨p2, g2, e2, t2⟩ := withoutB_spec N hN P h5 hP n p1 g1 t1
  obtain ⟨o, e3, q1, q2⟩ := pairsK_spec N hN P h5 hP n p2 (sumA P n (P - 1) + sumB P n (P - 1)) g2 t2
  obtain ⟨o1, o2, o3, o4⟩ := o
  refine ⟨o3, o4, ?_, q2⟩
  unfold mX3_pairsWith
  rw [e1]
  show (mX3_manyWithoutB N p1 g1 (nI P) n).bind _ = _
  rw [e2]
  show (mi_run (mX3_pairsWith_b17 N (nI P) n) N (nI (sumA P n (P - 1)) + nI (sumB P n (P - 1)), 1, p2, g2)).bind _ = _
  rw [nI_add, e3]
  dsimp only at q1
  show some (o1, o3, o4) = _
  rw [q1]
  rfl
theorem kindsJ_spec (N : Nat) (hN : 20000 ≤ N) (P : Nat) (h5 : 5 ≤ P) (hP : P ≤ 10007) (n pr : Int32) (s0 : Nat) (g : Nat → Int32) (ht : tabC pr g) : ∃ o, mi_run (mX3_kindsWith_b35 N (nI P) n) N (nI s0, 1, pr, g) = some o ∧ o.1 = nI (s0 + sumJ P n (P - 2)) ∧ tabC o.2.2.1 o.2.2.2 := by
  have h1 : 1 ≤ P := by omega
  have eP1 : nI P - 1 = nI (P - 1) := pk_sub (a := P) (b := 1) h1
  refine mi_run_ok (mX3_kindsWith_b35 N (nI P) n) (fun s => ∃ k, s.2.1 = nI (k + 1) ∧ k + 2 ≤ P ∧ s.1 = nI (s0 + sumJ P n k) ∧ tabC s.2.2.1 s.2.2.2) (fun o => o.1 = nI (s0 + sumJ P n (P - 2)) ∧ tabC o.2.2.1 o.2.2.2) (fun s => 15000 - s.2.1.toNatClampNeg) ?_ N (nI s0, 1, pr, g) ⟨0, rfl, by omega, rfl, ht⟩ ?_
  · intro ⟨x, y, z, g⟩ ⟨k, ey, hk, ex, htt⟩
    dsimp only at ey ex htt
    subst ey
    subst ex
    dsimp only [mX3_kindsWith_b35, mi_let]
    rw [eP1]
    rcases Nat.lt_or_ge (k + 1) (P - 1) with hlt | hge
    · left
      have h3 : 3 * (k + 1) % P < P := Nat.mod_lt _ h1
      have h2 : 2 * (k + 1) % P < P := Nat.mod_lt _ h1
      obtain ⟨pr', g', e, ht'⟩ := manyPoints_spec N hN P h5 hP (3 * (k + 1) % P) (2 * (k + 1) % P) h3 h2 z g htt
      have e' : mX3_manyPoints N z g (nI P) (nI (3 * (k + 1) % P)) (nI (2 * (k + 1) % P)) = some (nI (cK P (k + 1)), pr', g') := e
      have hc := cK_le P (k + 1)
      refine ⟨(nI (s0 + sumJ P n (k + 1)), nI (k + 1 + 1), pr', g'), ?_, ⟨k + 1, rfl, by omega, rfl, ht'⟩, ?_⟩
      · rw [if_neg (nI_ge hlt (by omega)), if_neg (nz_nI h1 hP), if_neg (nz_nI h1 hP), show (3 : Int32) = nI 3 from rfl, show (2 : Int32) * nI (k + 1) = nI (2 * (k + 1)) from pk_mul 2 (k + 1), pk_mul, rem_nI (by omega) h1 (by omega), rem_nI (by omega) h1 (by omega), e']
        have eT : (2 : Int32) * nI P + 2 - nI (cK P (k + 1)) = nI (2 * P + 2 - cK P (k + 1)) := by
          rw [show (2 : Int32) * nI P = nI (2 * P) from pk_mul 2 P, show nI (2 * P) + 2 = nI (2 * P + 2) from nI_add (2 * P) 2, pk_sub (by omega)]
        have eS : sumJ P n (k + 1) = sumJ P n k + (if nI (cK P (k + 1)) = n ∨ nI (2 * P + 2 - cK P (k + 1)) = n then 1 else 0) := rfl
        dsimp only [Option.bind]
        rw [eT, eS]
        by_cases ha : nI (cK P (k + 1)) = n
        · rw [if_pos ha, if_pos (Or.inl ha), nI_1, nI_1]
          rfl
        · rw [if_neg ha]
          by_cases hb : nI (2 * P + 2 - cK P (k + 1)) = n
          · rw [if_pos hb, if_pos (Or.inr hb), nI_1, nI_1]
            rfl
          · rw [if_neg hb, if_neg (fun q => q.elim ha hb), Int32.add_zero, nI_1]
            rfl
      · show 15000 - (nI (k + 1 + 1)).toNatClampNeg < 15000 - (nI (k + 1)).toNatClampNeg
        rw [nI_clamp (by omega), nI_clamp (by omega)]
        omega
    · right
      have e : P - 2 = k := by omega
      rw [if_pos (nI_le hge (by omega)), e]
      exact ⟨_, rfl, rfl, htt⟩
  · show 15000 - (nI 1).toNatClampNeg < N
    rw [nI_clamp (by omega)]
    omega
theorem kinds_spec (N : Nat) (hN : 20000 ≤ N) (P : Nat) (h5 : 5 ≤ P) (hP : P ≤ 10007) (n pr : Int32) (g : Nat → Int32) (ht : tabC pr g) : ∃ pr' g', mX3_kindsWith N pr g (nI P) n = some (nI (kindC P n), pr', g') ∧ tabC pr' g' := by
  obtain ⟨p1, g1, e1, t1⟩ := withoutA_spec N hN P h5 hP n pr g ht
  obtain ⟨p2, g2, e2, t2⟩ := withoutB_spec N hN P h5 hP n p1 g1 t1
  have la := sumA_le P n (P - 1)
  have lb := sumB_le P n (P - 1)
  have key : ∀ s0 : Nat, s0 = (if sumA P n (P - 1) = 0 then 0 else 1) + (if sumB P n (P - 1) = 0 then 0 else 1) → ∃ pr' g', (mi_run (mX3_kindsWith_b35 N (nI P) n) N (nI s0, 1, p2, g2)).bind (fun o => match o with | (y16, y17, y18, y19) => some (y16, y18, y19)) = some (nI (kindC P n), pr', g') ∧ tabC pr' g' := by
    intro s0 es
    obtain ⟨o, e3, q1, q2⟩ := kindsJ_spec N hN P h5 hP n p2 s0 g2 t2
    obtain ⟨o1, o2, o3, o4⟩ := o
    refine ⟨o3, o4, ?_, q2⟩
    rw [e3]
    dsimp only at q1
    show some (o1, o3, o4) = _
    rw [q1, es]
    rfl
  unfold mX3_kindsWith
  rw [e1]
  dsimp only [Option.bind]
  by_cases ha : sumA P n (P - 1) = 0
  · rw [if_pos (show nI (sumA P n (P - 1)) ≤ 0 by rw [ha]; decide), e2]
    dsimp only
    by_cases hb : sumB P n (P - 1) = 0
    · rw [if_pos (show nI (sumB P n (P - 1)) ≤ 0 by rw [hb]; decide)]
      exact key 0 (by rw [if_pos ha, if_pos hb])
    · rw [if_neg (nI_nle (Nat.pos_of_ne_zero hb) (by omega))]
      exact key 1 (by rw [if_pos ha, if_neg hb])
  · rw [if_neg (nI_nle (Nat.pos_of_ne_zero ha) (by omega)), e2]
    dsimp only
    by_cases hb : sumB P n (P - 1) = 0
    · rw [if_pos (show nI (sumB P n (P - 1)) ≤ 0 by rw [hb]; decide)]
      exact key 1 (by rw [if_neg ha, if_pos hb])
    · rw [if_neg (nI_nle (Nat.pos_of_ne_zero hb) (by omega))]
      exact key 2 (by rw [if_neg ha, if_neg hb])
