/-- a table of numbers below 16384, in one number -/
def dg (T i : Nat) : Nat := (T >>> (14 * i)) % 16384
def wtM (Q v : Nat) : Nat := cond (Nat.beq v 0) 1 (cond (Nat.beq ((Q >>> v) % 2) 1) 2 0)
def cntM (Q P A B k : Nat) : Nat := Nat.rec (motive := fun _ => Nat) 1 (fun k ih => Nat.add ih (wtM Q (((k * k + A) % P * k + B) % P))) k
def codeM (Q P A B : Nat) : Nat := 64 * cntM Q P A B P + cond (Nat.beq (disc P A B) 0) 63 (jN P A B)
def chkQ (Q P : Nat) : Bool := Nat.rec (motive := fun _ => Bool) true (fun v ih => cond (Nat.beq ((Q >>> v) % 2) (cond (sqb P v) 1 0)) ih false) P
def chkT (Q P T : Nat) : Bool := Nat.rec (motive := fun _ => Bool) true (fun i ih => cond (Nat.beq (codeM Q P (i / P) (i % P)) (dg T i)) ih false) (P * P)
theorem beq_t {a b : Nat} (h : Nat.beq a b = true) : a = b := Nat.eq_of_beq_eq_true h
theorem all_rec (f : Nat → Bool) (K : Nat) (h : Nat.rec (motive := fun _ => Bool) true (fun i ih => cond (f i) ih false) K = true) : ∀ i, i < K → f i = true := by
  induction K with
  | zero => intro i hi; omega
  | succ K ih =>
    intro i hi
    have h1 : cond (f K) (Nat.rec (motive := fun _ => Bool) true (fun i ih => cond (f i) ih false) K) false = true := h
    cases hf : f K with
    | false =>
      rw [hf] at h1
      exact Bool.noConfusion (show false = true from h1)
    | true =>
      rw [hf] at h1
      rcases Nat.lt_or_ge i K with q | q
      · exact ih h1 i q
      · have e : i = K := by omega
        rw [e]
        exact hf
theorem wtM_eq {Q P : Nat} (h : chkQ Q P = true) {v : Nat} (hv : v < P) : wtM Q v = wt P v := by
  have h1 := beq_t (all_rec _ P h v hv)
  unfold wtM wt
  by_cases h0 : v = 0
  · subst h0
    rfl
  · have e0 : Nat.beq v 0 = false := by
      cases q : Nat.beq v 0 with
      | false => rfl
      | true => exact absurd (beq_t q) h0
    rw [e0, if_neg h0, h1]
    cases hs : sqb P v with
    | false => rfl
    | true => rfl
theorem cntM_eq {Q P : Nat} (h : chkQ Q P = true) (hp : 0 < P) (A B k : Nat) : cntM Q P A B k = cnt P A B k := by
  induction k with
  | zero => rfl
  | succ k ih =>
    show cntM Q P A B k + wtM Q (cub P A B k) = cnt P A B k + wt P (cub P A B k)
    rw [ih, wtM_eq (v := cub P A B k) h (Nat.mod_lt _ hp)]
/-- what the table says of a pair -/
theorem tab_at {Q P T : Nat} (hQ : chkQ Q P = true) (hT : chkT Q P T = true) (hp : 0 < P) (hP : P ≤ 61) {A B : Nat} (hA : A < P) (hB : B < P) : dg T (A * P + B) / 64 = cnt P A B P ∧ (disc P A B = 0 → dg T (A * P + B) % 64 = 63) ∧ (¬ disc P A B = 0 → dg T (A * P + B) % 64 = jN P A B) := by
  have hi : A * P + B < P * P := by
    have h1 : A * P + P ≤ P * P := by
      have h2 : (A + 1) * P ≤ P * P := Nat.mul_le_mul_right P hA
      rw [Nat.add_mul, Nat.one_mul] at h2
      exact h2
    omega
  have h1 := beq_t (all_rec _ (P * P) hT (A * P + B) hi)
  have e1 : (A * P + B) / P = A := by
    rw [Nat.mul_comm A P, Nat.mul_add_div hp, Nat.div_eq_of_lt hB, Nat.add_zero]
  have e2 : (A * P + B) % P = B := by
    rw [Nat.mul_comm A P, Nat.mul_add_mod, Nat.mod_eq_of_lt hB]
  rw [e1, e2] at h1
  have hj := jN_lt P A B hp
  unfold codeM at h1
  rw [cntM_eq hQ hp] at h1
  by_cases hd : disc P A B = 0
  · have h2 : 64 * cnt P A B P + 63 = dg T (A * P + B) := by
      rw [← h1, hd]
      rfl
    rw [← h2]
    exact ⟨by omega, fun _ => by omega, fun h => absurd hd h⟩
  · have e0 : Nat.beq (disc P A B) 0 = false := by
      cases q : Nat.beq (disc P A B) 0 with
      | false => rfl
      | true => exact absurd (beq_t q) hd
    have h2 : 64 * cnt P A B P + jN P A B = dg T (A * P + B) := by
      rw [← h1, e0]
      rfl
    rw [← h2]
    exact ⟨by omega, fun h => absurd h hd, fun _ => by omega⟩
/-- one item of the table: are there m points -/
def hitT (T m i : Nat) : Bool := cond (Nat.beq (dg T i / 64) m) (cond (Nat.beq (dg T i % 64) 63) false true) false
/-- the reference's walk, from item K - k on: how many, and which j were seen -/
def refN (T m : Nat) (J : Bool) (K : Nat) (k : Nat) : Nat → Nat → Nat := Nat.rec (motive := fun _ => Nat → Nat → Nat) (fun acc _ => acc) (fun k ih acc M => cond (hitT T m (K - 1 - k)) (cond (cond J (Nat.beq ((M >>> (dg T (K - 1 - k) % 64)) % 2) 1) false) (ih acc M) (ih (acc + 1) (M ||| (1 <<< (dg T (K - 1 - k) % 64))))) (ih acc M)) k
def nb (a b : Nat) : Nat := cond (Nat.beq a b) 1 0
def cenA (T m : Nat) (k : Nat) : Nat := Nat.rec (motive := fun _ => Nat) 0 (fun k ih => ih + nb (dg T (k + 1) / 64) m) k
def cenB (P T m : Nat) (k : Nat) : Nat := Nat.rec (motive := fun _ => Nat) 0 (fun k ih => ih + nb (dg T ((k + 1) * P) / 64) m) k
def tK (P T k : Nat) : Nat := dg T (3 * k % P * P + 2 * k % P) / 64
def cenK (P T m : Nat) (k : Nat) : Nat := Nat.rec (motive := fun _ => Nat) 0 (fun k ih => ih + (P - 1) / 2 * nb (tK P T (k + 1)) m + (P - 1) / 2 * nb (2 * P + 2 - tK P T (k + 1)) m) k
def kinJ (P T m : Nat) (k : Nat) : Nat := Nat.rec (motive := fun _ => Nat) 0 (fun k ih => ih + cond (Nat.beq (tK P T (k + 1)) m) 1 (nb (2 * P + 2 - tK P T (k + 1)) m)) k
def cenT (P T m : Nat) : Nat := cenA T m (P - 1) + cenB P T m (P - 1) + cenK P T m (P - 2)
def kinT (P T m : Nat) : Nat := cond (Nat.beq (cenA T m (P - 1)) 0) 0 1 + cond (Nat.beq (cenB P T m (P - 1)) 0) 0 1 + kinJ P T m (P - 2)
def chkN (P T : Nat) : Bool := Nat.rec (motive := fun _ => Bool) true (fun m ih => cond (Nat.beq (refN T m false (P * P) (P * P) 0 0) (cenT P T m)) (cond (Nat.beq (refN T m true (P * P) (P * P) 0 0) (kinT P T m)) ih false) false) (2 * P + 4)
