theorem nh_nI (m c : Nat) (hm : m < 2 ^ 31) (hc : c < 2 ^ 31) : nh (nI m) c = nb c m := by
  unfold nh nb
  by_cases h : c = m
  · subst h
    rw [if_pos rfl, Nat.beq_refl]
    rfl
  · rw [if_neg (fun q => h ((nI_eq hc hm).mp q))]
    cases q : Nat.beq c m with
    | false => rfl
    | true => exact absurd (beq_t q) h
section Link
variable {Q P T : Nat} (hQ : chkQ Q P = true) (hT : chkT Q P T = true) (h5 : 5 ≤ P) (hP : P ≤ 61)
theorem lk_A (hQ : chkQ Q P = true) (hT : chkT Q P T = true) (h5 : 5 ≤ P) (hP : P ≤ 61) (m : Nat) (hm : m < 2 ^ 31) (k : Nat) (hk : k + 1 ≤ P) : cenA T m k = sumA P (nI m) k := by
  induction k with
  | zero => rfl
  | succ k ih =>
    show cenA T m k + nb (dg T (k + 1) / 64) m = sumA P (nI m) k + nh (nI m) (cnt P 0 (k + 1) P)
    have h := (tab_at hQ hT (by omega) hP (A := 0) (B := k + 1) (by omega) (by omega)).1
    rw [Nat.zero_mul, Nat.zero_add] at h
    have hc := cnt_le P 0 (k + 1) P
    rw [ih (by omega), h, nh_nI m _ hm (by omega)]
theorem lk_B (hQ : chkQ Q P = true) (hT : chkT Q P T = true) (h5 : 5 ≤ P) (hP : P ≤ 61) (m : Nat) (hm : m < 2 ^ 31) (k : Nat) (hk : k + 1 ≤ P) : cenB P T m k = sumB P (nI m) k := by
  induction k with
  | zero => rfl
  | succ k ih =>
    show cenB P T m k + nb (dg T ((k + 1) * P) / 64) m = sumB P (nI m) k + nh (nI m) (cnt P (k + 1) 0 P)
    have h := (tab_at hQ hT (by omega) hP (A := k + 1) (B := 0) (by omega) (by omega)).1
    rw [Nat.add_zero] at h
    have hc := cnt_le P (k + 1) 0 P
    rw [ih (by omega), h, nh_nI m _ hm (by omega)]
theorem lk_t (hQ : chkQ Q P = true) (hT : chkT Q P T = true) (h5 : 5 ≤ P) (hP : P ≤ 61) (k : Nat) : tK P T k = cK P k := (tab_at hQ hT (by omega) hP (Nat.mod_lt _ (by omega)) (Nat.mod_lt _ (by omega))).1
theorem lk_K (hQ : chkQ Q P = true) (hT : chkT Q P T = true) (h5 : 5 ≤ P) (hP : P ≤ 61) (m : Nat) (hm : m < 2 ^ 31) (k : Nat) : cenK P T m k = sumK P (nI m) k := by
  induction k with
  | zero => rfl
  | succ k ih =>
    show cenK P T m k + (P - 1) / 2 * nb (tK P T (k + 1)) m + (P - 1) / 2 * nb (2 * P + 2 - tK P T (k + 1)) m = sumK P (nI m) k + (P - 1) / 2 * nh (nI m) (cK P (k + 1)) + (P - 1) / 2 * nh (nI m) (2 * P + 2 - cK P (k + 1))
    have hc := cK_le P (k + 1)
    rw [ih, lk_t hQ hT h5 hP, nh_nI m _ hm (by omega), nh_nI m _ hm (by omega)]
theorem lk_J (hQ : chkQ Q P = true) (hT : chkT Q P T = true) (h5 : 5 ≤ P) (hP : P ≤ 61) (m : Nat) (hm : m < 2 ^ 31) (k : Nat) : kinJ P T m k = sumJ P (nI m) k := by
  induction k with
  | zero => rfl
  | succ k ih =>
    show kinJ P T m k + cond (Nat.beq (tK P T (k + 1)) m) 1 (nb (2 * P + 2 - tK P T (k + 1)) m) = sumJ P (nI m) k + (if nI (cK P (k + 1)) = nI m ∨ nI (2 * P + 2 - cK P (k + 1)) = nI m then 1 else 0)
    have hc := cK_le P (k + 1)
    rw [ih, lk_t hQ hT h5 hP]
    congr 1
    cases q : Nat.beq (cK P (k + 1)) m with
    | true => rw [if_pos (Or.inl (congrArg nI (beq_t q)))]; rfl
    | false =>
      have hne : ¬ nI (cK P (k + 1)) = nI m := fun h => by
        rw [(nI_eq (by omega) hm).mp h, Nat.beq_refl] at q
        exact absurd q (by decide)
      show nb (2 * P + 2 - cK P (k + 1)) m = _
      rw [← nh_nI m _ hm (by omega)]
      unfold nh
      by_cases h : nI (2 * P + 2 - cK P (k + 1)) = nI m
      · rw [if_pos h, if_pos (Or.inr h)]
      · rw [if_neg h, if_neg (fun z => z.elim hne h)]
theorem lk_cens (hQ : chkQ Q P = true) (hT : chkT Q P T = true) (h5 : 5 ≤ P) (hP : P ≤ 61) (m : Nat) (hm : m < 2 ^ 31) : censC P (nI m) = cenT P T m := by
  unfold censC cenT
  rw [lk_A hQ hT h5 hP m hm _ (by omega), lk_B hQ hT h5 hP m hm _ (by omega), lk_K hQ hT h5 hP m hm]
theorem cnd0 (x : Nat) : cond (Nat.beq x 0) 0 1 = if x = 0 then 0 else 1 := by
  cases x with
  | zero => rfl
  | succ x => rfl
theorem lk_kind (hQ : chkQ Q P = true) (hT : chkT Q P T = true) (h5 : 5 ≤ P) (hP : P ≤ 61) (m : Nat) (hm : m < 2 ^ 31) : kindC P (nI m) = kinT P T m := by
  unfold kindC kinT
  rw [cnd0, cnd0, lk_A hQ hT h5 hP m hm _ (by omega), lk_B hQ hT h5 hP m hm _ (by omega), lk_J hQ hT h5 hP m hm]
end Link
/-- the reference's walk item by item -/
def ascF (P : Nat) (n : Int32) (J : Bool) (s : Nat × (Nat → Int32)) : Nat → Nat × (Nat → Int32)
  | 0 => s
  | i + 1 => stp P n J (i / P) (i % P) (ascF P n J s i)
theorem row_asc (P : Nat) (hp : 0 < P) (n : Int32) (J : Bool) (s : Nat × (Nat → Int32)) (a b : Nat) (hb : b ≤ P) : rowF P n J a (ascF P n J s (a * P)) b = ascF P n J s (a * P + b) := by
  induction b with
  | zero => rfl
  | succ b ih =>
    show stp P n J a b (rowF P n J a (ascF P n J s (a * P)) b) = stp P n J ((a * P + b) / P) ((a * P + b) % P) (ascF P n J s (a * P + b))
    have e1 : (a * P + b) / P = a := by
      rw [Nat.mul_comm a P, Nat.mul_add_div hp, Nat.div_eq_of_lt (by omega), Nat.add_zero]
    have e2 : (a * P + b) % P = b := by
      rw [Nat.mul_comm a P, Nat.mul_add_mod, Nat.mod_eq_of_lt (by omega)]
    rw [ih (by omega), e1, e2]
theorem all_asc (P : Nat) (hp : 0 < P) (n : Int32) (J : Bool) (s : Nat × (Nat → Int32)) (k : Nat) : allF P n J s k = ascF P n J s (k * P) := by
  induction k with
  | zero => rw [Nat.zero_mul]; rfl
  | succ k ih =>
    show rowF P n J k (allF P n J s k) P = _
    rw [ih, row_asc P hp n J s k P (Nat.le_refl _), Nat.add_mul, Nat.one_mul]
/-- the bits of M are the numbers seen -/
def seenM (P : Nat) (S : Nat → Int32) (M : Nat) : Prop := ∀ j, j < P → (S j = 0 ↔ M.testBit j = false)
theorem bit_beq (M j : Nat) : Nat.beq ((M >>> j) % 2) 1 = M.testBit j := by
  rw [Nat.testBit_eq_decide_div_mod_eq, Nat.shiftRight_eq_div_pow]
  cases q : Nat.beq (M / 2 ^ j % 2) 1 with
  | true => exact (decide_eq_true (beq_t q)).symm
  | false =>
    symm
    apply decide_eq_false
    intro h
    rw [h] at q
    exact absurd q (by decide)
theorem seenM_put {P : Nat} {S : Nat → Int32} {M j : Nat} (h : seenM P S M) : seenM P (upd S j 1) (M ||| (1 <<< j)) := by
  intro i hi
  rw [Nat.testBit_or, Nat.one_shiftLeft, Nat.testBit_two_pow]
  by_cases e : i = j
  · subst e
    rw [pk_us, decide_eq_true rfl, Bool.or_true]
    exact ⟨fun q => absurd q (by decide), fun q => absurd q (by decide)⟩
  · rw [pk_un e, decide_eq_false (fun q => e q.symm), Bool.or_false]
    exact h i hi
theorem ref_asc {Q P T : Nat} (hQ : chkQ Q P = true) (hT : chkT Q P T = true) (h5 : 5 ≤ P) (hP : P ≤ 61) (m : Nat) (hm : m < 2 ^ 31) (J : Bool) (S0 : Nat → Int32) :
    ∀ (k M : Nat), k ≤ P * P → seenM P (ascF P (nI m) J (0, S0) (P * P - k)).2 M → refN T m J (P * P) k (ascF P (nI m) J (0, S0) (P * P - k)).1 M = (ascF P (nI m) J (0, S0) (P * P)).1 := by
  intro k
  induction k with
  | zero => intro M _ _; rfl
  | succ k ih =>
    intro M hk hs
    have ei : P * P - (k + 1) + 1 = P * P - k := by omega
    have ej : P * P - 1 - k = P * P - (k + 1) := by omega
    obtain ⟨i, hi⟩ : ∃ i, i = P * P - (k + 1) := ⟨_, rfl⟩
    have hst : ascF P (nI m) J (0, S0) (P * P - k) = stp P (nI m) J (i / P) (i % P) (ascF P (nI m) J (0, S0) i) := by
      rw [← ei, ← hi]
      rfl
    rw [← hi] at hs ⊢
    have hA : i / P < P := Nat.div_lt_of_lt_mul (by omega)
    have hB : i % P < P := Nat.mod_lt _ (by omega)
    have et : i / P * P + i % P = i := by
      rw [Nat.mul_comm]
      exact Nat.div_add_mod i P
    have ht := tab_at hQ hT (by omega) hP hA hB
    rw [et] at ht
    obtain ⟨t1, t2, t3⟩ := ht
    have hj := jN_lt P (i / P) (i % P) (by omega)
    have hc := cnt_le P (i / P) (i % P) P
    have un : refN T m J (P * P) (k + 1) (ascF P (nI m) J (0, S0) i).1 M = cond (hitT T m i) (cond (cond J (Nat.beq ((M >>> (dg T i % 64)) % 2) 1) false) (refN T m J (P * P) k (ascF P (nI m) J (0, S0) i).1 M) (refN T m J (P * P) k ((ascF P (nI m) J (0, S0) i).1 + 1) (M ||| (1 <<< (dg T i % 64))))) (refN T m J (P * P) k (ascF P (nI m) J (0, S0) i).1 M) := by
      rw [hi, ← ej]
      rfl
    rw [un]
    unfold hitT
    rw [t1]
    have ih2 := fun M h => ih M (by omega) h
    rw [hst] at ih2
    unfold stp at ih2
    by_cases hd : disc P (i / P) (i % P) = 0
    · rw [if_pos hd] at ih2
      rw [t2 hd]
      cases Nat.beq (cnt P (i / P) (i % P) P) m with
      | true => exact ih2 M hs
      | false => exact ih2 M hs
    · rw [if_neg hd] at ih2
      rw [t3 hd]
      cases q : Nat.beq (cnt P (i / P) (i % P) P) m with
      | false =>
        rw [if_neg (fun z => by
          rw [(nI_eq (by omega) hm).mp z, Nat.beq_refl] at q
          exact absurd q (by decide))] at ih2
        exact ih2 M hs
      | true =>
        rw [if_pos (congrArg nI (beq_t q))] at ih2
        have e63 : Nat.beq (jN P (i / P) (i % P)) 63 = false := by
          cases z : Nat.beq (jN P (i / P) (i % P)) 63 with
          | false => rfl
          | true =>
            have := beq_t z
            omega
        rw [e63, bit_beq]
        have hsj := hs (jN P (i / P) (i % P)) hj
        cases J with
        | false =>
          rw [if_neg (fun z => absurd z.1 (by decide))] at ih2
          exact ih2 _ (seenM_put hs)
        | true =>
          cases hb : M.testBit (jN P (i / P) (i % P)) with
          | false =>
            rw [if_neg (fun z => z.2 (hsj.mpr hb))] at ih2
            exact ih2 _ (seenM_put hs)
          | true =>
            have hne : ¬ (ascF P (nI m) true (0, S0) i).2 (jN P (i / P) (i % P)) = 0 := fun z => by
              rw [hsj.mp z] at hb
              exact absurd hb (by decide)
            rw [if_pos ⟨rfl, hne⟩] at ih2
            refine ih2 M ?_
            intro x hx
            by_cases e : x = jN P (i / P) (i % P)
            · subst e
              show upd _ _ 1 _ = 0 ↔ _
              rw [pk_us, hb]
              exact ⟨fun z => absurd z (by decide), fun z => absurd z (by decide)⟩
            · show upd _ _ 1 _ = 0 ↔ _
              rw [pk_un e]
              exact hs x hx
theorem ref_all {Q P T : Nat} (hQ : chkQ Q P = true) (hT : chkT Q P T = true) (h5 : 5 ≤ P) (hP : P ≤ 61) (m : Nat) (hm : m < 2 ^ 31) (J : Bool) (S0 : Nat → Int32) (h0 : ∀ v, v < P → S0 v = 0) : (allF P (nI m) J (0, S0) P).1 = refN T m J (P * P) (P * P) 0 0 := by
  rw [all_asc P (by omega)]
  have h := ref_asc hQ hT h5 hP m hm J S0 (P * P) 0 (Nat.le_refl _) (by
    rw [Nat.sub_self]
    intro j hj
    exact ⟨fun _ => Nat.zero_testBit j, fun _ => h0 j hj⟩)
  rw [Nat.sub_self] at h
  exact h.symm
theorem fin_nI {Q P T : Nat} (hQ : chkQ Q P = true) (hT : chkT Q P T = true) (hN : chkN P T = true) (h5 : 5 ≤ P) (hP : P ≤ 61) (m : Nat) (hm : m < 2 * P + 4) (S0 : Nat → Int32) (h0 : ∀ v, v < P → S0 v = 0) : (allF P (nI m) false (0, S0) P).1 = censC P (nI m) ∧ (allF P (nI m) true (0, S0) P).1 = kindC P (nI m) := by
  have h := all_rec (fun m => cond (Nat.beq (refN T m false (P * P) (P * P) 0 0) (cenT P T m)) (Nat.beq (refN T m true (P * P) (P * P) 0 0) (kinT P T m)) false) (2 * P + 4) (by
    have e : ∀ K, Nat.rec (motive := fun _ => Bool) true (fun m ih => cond (cond (Nat.beq (refN T m false (P * P) (P * P) 0 0) (cenT P T m)) (Nat.beq (refN T m true (P * P) (P * P) 0 0) (kinT P T m)) false) ih false) K = Nat.rec (motive := fun _ => Bool) true (fun m ih => cond (Nat.beq (refN T m false (P * P) (P * P) 0 0) (cenT P T m)) (cond (Nat.beq (refN T m true (P * P) (P * P) 0 0) (kinT P T m)) ih false) false) K := by
      intro K
      induction K with
      | zero => rfl
      | succ K ih =>
        show cond (cond (Nat.beq (refN T K false (P * P) (P * P) 0 0) (cenT P T K)) (Nat.beq (refN T K true (P * P) (P * P) 0 0) (kinT P T K)) false) _ false = cond (Nat.beq (refN T K false (P * P) (P * P) 0 0) (cenT P T K)) (cond (Nat.beq (refN T K true (P * P) (P * P) 0 0) (kinT P T K)) _ false) false
        rw [ih]
        cases Nat.beq (refN T K false (P * P) (P * P) 0 0) (cenT P T K) <;> rfl
    exact Eq.trans (e (2 * P + 4)) hN) m hm
  rw [ref_all hQ hT h5 hP m (by omega) false S0 h0, ref_all hQ hT h5 hP m (by omega) true S0 h0, lk_cens hQ hT h5 hP m (by omega), lk_kind hQ hT h5 hP m (by omega)]
  cases q : Nat.beq (refN T m false (P * P) (P * P) 0 0) (cenT P T m) with
  | false =>
    rw [q] at h
    exact Bool.noConfusion (show false = true from h)
  | true =>
    rw [q] at h
    exact ⟨beq_t q, beq_t h⟩
