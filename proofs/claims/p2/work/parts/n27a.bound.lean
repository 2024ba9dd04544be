/-! sums, sequences, operators -/
def hs_s : Nat → (Nat → Int) → Int
  | 0, _ => 0
  | n + 1, f => hs_s n f + f n
theorem hs_s_ext {f g : Nat → Int} : ∀ {n : Nat}, (∀ i, i < n → f i = g i) → hs_s n f = hs_s n g
  | 0, _ => rfl
  | n + 1, h => by
    show hs_s n f + f n = hs_s n g + g n
    rw [hs_s_ext (fun i hi => h i (Nat.lt_succ_of_lt hi)), h n (Nat.lt_succ_self n)]
theorem hs_s_add (f g : Nat → Int) : ∀ n : Nat, hs_s n (fun i => f i + g i) = hs_s n f + hs_s n g
  | 0 => rfl
  | n + 1 => by
    show hs_s n (fun i => f i + g i) + (f n + g n) = (hs_s n f + f n) + (hs_s n g + g n)
    rw [hs_s_add f g n]; omega
theorem hs_s_mul (k : Int) (f : Nat → Int) : ∀ n : Nat, hs_s n (fun i => k * f i) = k * hs_s n f
  | 0 => by show (0 : Int) = k * 0; omega
  | n + 1 => by
    show hs_s n (fun i => k * f i) + k * f n = k * (hs_s n f + f n)
    rw [hs_s_mul k f n, Int.mul_add]
theorem hs_s_zero : ∀ n : Nat, hs_s n (fun _ => 0) = 0
  | 0 => rfl
  | n + 1 => by show hs_s n (fun _ => 0) + 0 = 0; rw [hs_s_zero n]; rfl
theorem hs_s_dvd {P : Int} {f : Nat → Int} : ∀ {n : Nat}, (∀ i, i < n → P ∣ f i) → P ∣ hs_s n f
  | 0, _ => Int.dvd_zero P
  | n + 1, h => Int.dvd_add (hs_s_dvd (fun i hi => h i (Nat.lt_succ_of_lt hi))) (h n (Nat.lt_succ_self n))
theorem hs_s_one {P : Int} {f : Nat → Int} {u : Nat} : ∀ {n : Nat}, u < n → (∀ i, i < n → i ≠ u → P ∣ f i) → P ∣ hs_s n f - f u
  | 0, hu, _ => absurd hu (Nat.not_lt_zero u)
  | n + 1, hu, h => by
    show P ∣ hs_s n f + f n - f u
    by_cases e : n = u
    · subst e
      have := hs_s_dvd (P := P) (f := f) (n := n) (fun i hi => h i (Nat.lt_succ_of_lt hi) (by omega))
      rw [show hs_s n f + f n - f n = hs_s n f by omega]; exact this
    · have h1 := hs_s_one (P := P) (f := f) (u := u) (n := n) (by omega) (fun i hi => h i (Nat.lt_succ_of_lt hi))
      have h2 := h n (Nat.lt_succ_self n) e
      rw [show hs_s n f + f n - f u = (hs_s n f - f u) + f n by omega]; exact Int.dvd_add h1 h2
theorem hs_s_shift (f : Nat → Int) : ∀ n : Nat, hs_s (n + 1) f = f 0 + hs_s n (fun i => f (i + 1))
  | 0 => by show 0 + f 0 = f 0 + 0; omega
  | n + 1 => by
    have := hs_s_shift f n
    show hs_s (n + 1) f + f (n + 1) = f 0 + (hs_s n (fun i => f (i + 1)) + f (n + 1))
    rw [this]; omega
theorem hs_s_swap (f : Nat → Nat → Int) (m : Nat) : ∀ n : Nat, hs_s n (fun i => hs_s m (fun j => f i j)) = hs_s m (fun j => hs_s n (fun i => f i j))
  | 0 => (hs_s_zero m).symm
  | n + 1 => by
    show hs_s n (fun i => hs_s m (fun j => f i j)) + hs_s m (fun j => f n j) = hs_s m (fun j => hs_s n (fun i => f i j) + f n j)
    rw [hs_s_swap f m n, ← hs_s_add]
theorem hs_s_le {f : Nat → Int} {m : Nat} : ∀ {n : Nat}, m ≤ n → (∀ i, m ≤ i → i < n → f i = 0) → hs_s n f = hs_s m f
  | 0, hm, _ => by rw [Nat.le_zero.mp hm]
  | n + 1, hm, h => by
    by_cases e : m = n + 1
    · rw [e]
    · show hs_s n f + f n = _
      rw [h n (by omega) (Nat.lt_succ_self n), hs_s_le (m := m) (n := n) (by omega) (fun i h1 h2 => h i h1 (by omega))]; omega
/-- the places but u0 -/
def hs_k (u0 u : Nat) : Nat := if u < u0 then u else u + 1
theorem hs_s_skip (f : Nat → Int) {u0 : Nat} : ∀ {n : Nat}, u0 ≤ n → hs_s (n + 1) f = f u0 + hs_s n (fun u => f (hs_k u0 u))
  | 0, h => by
    have e : u0 = 0 := Nat.le_zero.mp h
    subst e; show 0 + f 0 = f 0 + 0; omega
  | n + 1, h => by
    show hs_s (n + 1) f + f (n + 1) = f u0 + (hs_s n (fun u => f (hs_k u0 u)) + f (hs_k u0 n))
    by_cases e : u0 = n + 1
    · have h1 : hs_s (n + 1) (fun u => f (hs_k u0 u)) = hs_s (n + 1) f := hs_s_ext (fun i hi => by show f (hs_k u0 i) = f i; rw [hs_k, if_pos (by omega)])
      have h2 : hs_s (n + 1) (fun u => f (hs_k u0 u)) = hs_s n (fun u => f (hs_k u0 u)) + f (hs_k u0 n) := rfl
      rw [← h2, h1, e]; omega
    · rw [hs_s_skip f (u0 := u0) (n := n) (by omega)]
      have : hs_k u0 n = n + 1 := by rw [hs_k, if_neg (by omega)]
      rw [this]; omega
/-- more unknowns than equations: a solution that isn't 0 -/
theorem hs_solve {P : Int} (hE : ∀ a b : Int, P ∣ a * b → P ∣ a ∨ P ∣ b) (h1 : ¬ P ∣ 1) : ∀ (E U : Nat), E < U → ∀ A : Nat → Nat → Int, ∃ v : Nat → Int, (∃ u, u < U ∧ ¬ P ∣ v u) ∧ ∀ e, e < E → P ∣ hs_s U (fun u => v u * A e u)
  | 0, U, hU, A => ⟨fun _ => 1, ⟨0, hU, h1⟩, fun e he => absurd he (Nat.not_lt_zero e)⟩
  | E + 1, 0, hU, A => absurd hU (Nat.not_lt_zero _)
  | E + 1, U + 1, hU, A => by
    by_cases hz : ∀ u, u < U + 1 → P ∣ A E u
    · obtain ⟨v, hv, hs⟩ := hs_solve hE h1 E (U + 1) (by omega) A
      refine ⟨v, hv, fun e he => ?_⟩
      by_cases e1 : e = E
      · subst e1; exact hs_s_dvd (fun u hu => Int.dvd_mul_of_dvd_right (hz u hu))
      · exact hs e (by omega)
    · obtain ⟨u0, hz⟩ := Classical.not_forall.mp hz
      obtain ⟨hu0, hz⟩ := Classical.not_imp.mp hz
      obtain ⟨w, ⟨u1, hu1, hw⟩, hs⟩ := hs_solve hE h1 E U (by omega) (fun e u => A e (hs_k u0 u) * A E u0 - A e u0 * A E (hs_k u0 u))
      refine ⟨fun u => if u = u0 then - hs_s U (fun x => w x * A E (hs_k u0 x)) else (if u < u0 then w u else w (u - 1)) * A E u0, ⟨hs_k u0 u1, ?_, ?_⟩, fun e he => ?_⟩
      · unfold hs_k; split <;> omega
      · have e1 : hs_k u0 u1 ≠ u0 := by unfold hs_k; split <;> omega
        show ¬ P ∣ (if hs_k u0 u1 = u0 then _ else _)
        rw [if_neg e1]
        have e2 : (if hs_k u0 u1 < u0 then w (hs_k u0 u1) else w (hs_k u0 u1 - 1)) = w u1 := by
          unfold hs_k
          by_cases q : u1 < u0
          · rw [if_pos q, if_pos q]
          · rw [if_neg q, if_neg (by omega)]; rfl
        rw [e2]
        intro hd
        rcases hE _ _ hd with h | h
        · exact hw h
        · exact hz h
      · rw [hs_s_skip _ (u0 := u0) (n := U) (by omega)]
        have e1 : hs_s U (fun u => (fun u => (if u = u0 then - hs_s U (fun x => w x * A E (hs_k u0 x)) else (if u < u0 then w u else w (u - 1)) * A E u0) * A e u) (hs_k u0 u)) = hs_s U (fun u => w u * (A e (hs_k u0 u) * A E u0)) := by
          refine hs_s_ext (fun u hu => ?_)
          have e1 : hs_k u0 u ≠ u0 := by unfold hs_k; split <;> omega
          have e2 : (if hs_k u0 u < u0 then w (hs_k u0 u) else w (hs_k u0 u - 1)) = w u := by
            unfold hs_k
            by_cases q : u < u0
            · rw [if_pos q, if_pos q]
            · rw [if_neg q, if_neg (by omega)]; rfl
          show (if hs_k u0 u = u0 then _ else _) * _ = _
          rw [if_neg e1, e2]; grind
        rw [e1]
        show P ∣ (if u0 = u0 then _ else _) * A e u0 + _
        rw [if_pos rfl]
        have e3 : - hs_s U (fun x => w x * A E (hs_k u0 x)) * A e u0 + hs_s U (fun u => w u * (A e (hs_k u0 u) * A E u0)) = hs_s U (fun u => w u * (A e (hs_k u0 u) * A E u0 - A e u0 * A E (hs_k u0 u))) := by
          have a1 : hs_s U (fun u => w u * (A e (hs_k u0 u) * A E u0 - A e u0 * A E (hs_k u0 u))) = hs_s U (fun u => w u * (A e (hs_k u0 u) * A E u0) + (- A e u0) * (w u * A E (hs_k u0 u))) := hs_s_ext (fun u _ => by grind)
          rw [a1, hs_s_add, hs_s_mul]; grind
        rw [e3]
        by_cases e4 : e = E
        · subst e4
          refine hs_s_dvd (fun u _ => ?_)
          rw [show A e (hs_k u0 u) * A e u0 - A e u0 * A e (hs_k u0 u) = 0 by grind, Int.mul_zero]; exact Int.dvd_zero _
        · exact hs e (by omega)
/-! sequences and their operators -/
theorem hs_mr {P x : Int} (k : Int) (h : P ∣ x) : P ∣ k * x := Int.dvd_mul_of_dvd_right h
def hs_X (c : Nat → Int) : Nat → Int := fun n => match n with | 0 => 0 | n + 1 => c n
def hs_D (c : Nat → Int) : Nat → Int := fun n => ((n : Int) + 1) * c (n + 1)
def hs_F (a b : Int) (c : Nat → Int) : Nat → Int := fun n => hs_X (hs_X (hs_X c)) n + a * hs_X c n + b * c n
def hs_G (a : Int) (c : Nat → Int) : Nat → Int := fun n => 3 * hs_X (hs_X c) n + a * c n
def hs_T (a b : Int) (s : Bool) (c : Nat → Int) : Nat → Int := match s with
  | true => fun n => 2 * hs_F a b (hs_D c) n + hs_G a c n
  | false => fun n => 2 * hs_D c n
def hs_i (a b : Int) : Bool → Nat → (Nat → Int) → (Nat → Int)
  | _, 0, c => c
  | s, j + 1, c => hs_i a b (!s) j (hs_T a b s c)
def hs_q (P : Int) (c d : Nat → Int) : Prop := ∀ n, P ∣ c n - d n
theorem hs_q.rf {P : Int} (c : Nat → Int) : hs_q P c c := fun n => by rw [Int.sub_self]; exact Int.dvd_zero P
theorem hs_q.of {P : Int} {c d : Nat → Int} (h : c = d) : hs_q P c d := h ▸ hs_q.rf c
theorem hs_q.sy {P : Int} {c d : Nat → Int} (h : hs_q P c d) : hs_q P d c := fun n => by
  have := Int.dvd_neg.mpr (h n); rwa [Int.neg_sub] at this
theorem hs_q.tr {P : Int} {c d e : Nat → Int} (h : hs_q P c d) (g : hs_q P d e) : hs_q P c e := fun n => by
  have := Int.dvd_add (h n) (g n); rwa [show c n - d n + (d n - e n) = c n - e n by omega] at this
theorem hs_q.X {P : Int} {c d : Nat → Int} (h : hs_q P c d) : hs_q P (hs_X c) (hs_X d) := fun n => by
  match n with
  | 0 => exact Int.dvd_zero P
  | n + 1 => exact h n
theorem hs_q.D {P : Int} {c d : Nat → Int} (h : hs_q P c d) : hs_q P (hs_D c) (hs_D d) := fun n => by
  show P ∣ ((n : Int) + 1) * c (n + 1) - ((n : Int) + 1) * d (n + 1)
  rw [← Int.mul_sub]; exact Int.dvd_mul_of_dvd_right (h (n + 1))
theorem hs_q.F {P a b : Int} {c d : Nat → Int} (h : hs_q P c d) : hs_q P (hs_F a b c) (hs_F a b d) := fun n => by
  have h3 := h.X.X.X n
  have h1 := hs_mr a (h.X n)
  have h0 := hs_mr b (h n)
  have := Int.dvd_add (Int.dvd_add h3 h1) h0
  show P ∣ (hs_X (hs_X (hs_X c)) n + a * hs_X c n + b * c n) - (hs_X (hs_X (hs_X d)) n + a * hs_X d n + b * d n)
  rwa [show hs_X (hs_X (hs_X c)) n - hs_X (hs_X (hs_X d)) n + a * (hs_X c n - hs_X d n) + b * (c n - d n) = (hs_X (hs_X (hs_X c)) n + a * hs_X c n + b * c n) - (hs_X (hs_X (hs_X d)) n + a * hs_X d n + b * d n) by grind] at this
theorem hs_q.G {P a : Int} {c d : Nat → Int} (h : hs_q P c d) : hs_q P (hs_G a c) (hs_G a d) := fun n => by
  have h3 := hs_mr 3 (h.X.X n)
  have h0 := hs_mr a (h n)
  have := Int.dvd_add h3 h0
  show P ∣ (3 * hs_X (hs_X c) n + a * c n) - (3 * hs_X (hs_X d) n + a * d n)
  rwa [show 3 * (hs_X (hs_X c) n - hs_X (hs_X d) n) + a * (c n - d n) = (3 * hs_X (hs_X c) n + a * c n) - (3 * hs_X (hs_X d) n + a * d n) by grind] at this
theorem hs_q.T {P a b : Int} {s : Bool} {c d : Nat → Int} (h : hs_q P c d) : hs_q P (hs_T a b s c) (hs_T a b s d) := fun n => by
  cases s with
  | true =>
    have := Int.dvd_add (hs_mr 2 (h.D.F (a := a) (b := b) n)) (h.G (a := a) n)
    show P ∣ (2 * hs_F a b (hs_D c) n + hs_G a c n) - (2 * hs_F a b (hs_D d) n + hs_G a d n)
    rwa [show 2 * (hs_F a b (hs_D c) n - hs_F a b (hs_D d) n) + (hs_G a c n - hs_G a d n) = (2 * hs_F a b (hs_D c) n + hs_G a c n) - (2 * hs_F a b (hs_D d) n + hs_G a d n) by omega] at this
  | false =>
    have := hs_mr 2 (h.D n)
    show P ∣ 2 * hs_D c n - 2 * hs_D d n
    rwa [Int.mul_sub] at this
theorem hs_q.i' {P a b : Int} : ∀ (j : Nat) (s : Bool) (c d : Nat → Int), hs_q P c d → hs_q P (hs_i a b s j c) (hs_i a b s j d)
  | 0, _, _, _, h => h
  | j + 1, s, c, d, h => hs_q.i' j (!s) (hs_T a b s c) (hs_T a b s d) h.T
theorem hs_q.i {P a b : Int} {j : Nat} {s : Bool} {c d : Nat → Int} (h : hs_q P c d) : hs_q P (hs_i a b s j c) (hs_i a b s j d) := hs_q.i' j s c d h
/-- sums of sequences -/
def hs_L (U : Nat) (v : Nat → Int) (c : Nat → Nat → Int) : Nat → Int := fun n => hs_s U (fun u => v u * c u n)
theorem hs_L_X (U : Nat) (v : Nat → Int) (c : Nat → Nat → Int) : hs_X (hs_L U v c) = hs_L U v (fun u => hs_X (c u)) := by
  funext n
  match n with
  | 0 => show (0 : Int) = hs_s U (fun u => v u * 0); rw [hs_s_ext (g := fun _ => 0) (fun i _ => Int.mul_zero _), hs_s_zero]
  | n + 1 => rfl
theorem hs_L_D (U : Nat) (v : Nat → Int) (c : Nat → Nat → Int) : hs_D (hs_L U v c) = hs_L U v (fun u => hs_D (c u)) := by
  funext n
  show ((n : Int) + 1) * hs_s U (fun u => v u * c u (n + 1)) = hs_s U (fun u => v u * (((n : Int) + 1) * c u (n + 1)))
  rw [← hs_s_mul]; exact hs_s_ext (fun i _ => by grind)
theorem hs_L_F (a b : Int) (U : Nat) (v : Nat → Int) (c : Nat → Nat → Int) : hs_F a b (hs_L U v c) = hs_L U v (fun u => hs_F a b (c u)) := by
  funext n
  show hs_X (hs_X (hs_X (hs_L U v c))) n + a * hs_X (hs_L U v c) n + b * hs_L U v c n = _
  rw [hs_L_X, hs_L_X, hs_L_X]
  show hs_s U _ + a * hs_s U _ + b * hs_s U _ = hs_s U _
  rw [← hs_s_mul, ← hs_s_mul, ← hs_s_add, ← hs_s_add]
  exact hs_s_ext (fun i _ => by show _ = v i * (hs_X (hs_X (hs_X (c i))) n + a * hs_X (c i) n + b * c i n); grind)
theorem hs_L_G (a : Int) (U : Nat) (v : Nat → Int) (c : Nat → Nat → Int) : hs_G a (hs_L U v c) = hs_L U v (fun u => hs_G a (c u)) := by
  funext n
  show 3 * hs_X (hs_X (hs_L U v c)) n + a * hs_L U v c n = _
  rw [hs_L_X, hs_L_X]
  show 3 * hs_s U _ + a * hs_s U _ = hs_s U _
  rw [← hs_s_mul, ← hs_s_mul, ← hs_s_add]
  exact hs_s_ext (fun i _ => by show _ = v i * (3 * hs_X (hs_X (c i)) n + a * c i n); grind)
theorem hs_L_T (a b : Int) (s : Bool) (U : Nat) (v : Nat → Int) (c : Nat → Nat → Int) : hs_T a b s (hs_L U v c) = hs_L U v (fun u => hs_T a b s (c u)) := by
  funext n
  cases s with
  | true =>
    show 2 * hs_F a b (hs_D (hs_L U v c)) n + hs_G a (hs_L U v c) n = _
    rw [hs_L_D, hs_L_F, hs_L_G]
    show 2 * hs_s U _ + hs_s U _ = hs_s U _
    rw [← hs_s_mul, ← hs_s_add]
    exact hs_s_ext (fun i _ => by show _ = v i * (2 * hs_F a b (hs_D (c i)) n + hs_G a (c i) n); grind)
  | false =>
    show 2 * hs_D (hs_L U v c) n = _
    rw [hs_L_D]
    show 2 * hs_s U _ = hs_s U _
    rw [← hs_s_mul]
    exact hs_s_ext (fun i _ => by show _ = v i * (2 * hs_D (c i) n); grind)
theorem hs_L_i (a b : Int) (U : Nat) (v : Nat → Int) : ∀ (j : Nat) (s : Bool) (c : Nat → Nat → Int), hs_i a b s j (hs_L U v c) = hs_L U v (fun u => hs_i a b s j (c u))
  | 0, _, _ => rfl
  | j + 1, s, c => by show hs_i a b (!s) j (hs_T a b s (hs_L U v c)) = _; rw [hs_L_T, hs_L_i a b U v j]; rfl
/-- derivative of f times .. -/
theorem hs_DF (a b : Int) (c : Nat → Int) : hs_D (hs_F a b c) = fun n => hs_F a b (hs_D c) n + hs_G a c n := by
  funext n
  match n with
  | 0 => simp only [hs_D, hs_F, hs_G, hs_X]; grind
  | 1 => simp only [hs_D, hs_F, hs_G, hs_X]; grind
  | 2 => simp only [hs_D, hs_F, hs_G, hs_X]; grind
  | n + 3 => simp only [hs_D, hs_F, hs_G, hs_X]; push_cast; grind
theorem hs_GF (a b : Int) (c : Nat → Int) : hs_G a (hs_F a b c) = hs_F a b (hs_G a c) := by
  funext n
  match n with
  | 0 => simp only [hs_F, hs_G, hs_X]; grind
  | 1 => simp only [hs_F, hs_G, hs_X]; grind
  | 2 => simp only [hs_F, hs_G, hs_X]; grind
  | 3 => simp only [hs_F, hs_G, hs_X]; grind
  | 4 => simp only [hs_F, hs_G, hs_X]; grind
  | n + 5 => simp only [hs_F, hs_G, hs_X]; grind
def hs_Fk (a b : Int) : Nat → (Nat → Int) → (Nat → Int)
  | 0, c => c
  | k + 1, c => hs_F a b (hs_Fk a b k c)
theorem hs_F_add (a b k : Int) (c d : Nat → Int) : hs_F a b (fun n => c n + k * d n) = fun n => hs_F a b c n + k * hs_F a b d n := by
  funext n
  match n with
  | 0 => simp only [hs_F, hs_X]; grind
  | 1 => simp only [hs_F, hs_X]; grind
  | 2 => simp only [hs_F, hs_X]; grind
  | n + 3 => simp only [hs_F, hs_X]; grind
theorem hs_F_mul (a b k : Int) (c : Nat → Int) : hs_F a b (fun n => k * c n) = fun n => k * hs_F a b c n := by
  funext n
  match n with
  | 0 => simp only [hs_F, hs_X]; grind
  | 1 => simp only [hs_F, hs_X]; grind
  | 2 => simp only [hs_F, hs_X]; grind
  | n + 3 => simp only [hs_F, hs_X]; grind
theorem hs_Fk_mul (a b k : Int) (c : Nat → Int) : ∀ h : Nat, hs_Fk a b h (fun n => k * c n) = fun n => k * hs_Fk a b h c n
  | 0 => rfl
  | h + 1 => by show hs_F a b (hs_Fk a b h _) = _; rw [hs_Fk_mul a b k c h, hs_F_mul]; rfl
theorem hs_Fk_add (a b k : Int) (c d : Nat → Int) : ∀ h : Nat, hs_Fk a b h (fun n => c n + k * d n) = fun n => hs_Fk a b h c n + k * hs_Fk a b h d n
  | 0 => rfl
  | h + 1 => by show hs_F a b (hs_Fk a b h _) = _; rw [hs_Fk_add a b k c d h, hs_F_add]; rfl
theorem hs_Fk_F (a b : Int) (c : Nat → Int) : ∀ h : Nat, hs_Fk a b h (hs_F a b c) = hs_F a b (hs_Fk a b h c)
  | 0 => rfl
  | h + 1 => by show hs_F a b (hs_Fk a b h _) = _; rw [hs_Fk_F a b c h]; rfl
theorem hs_Fk_G (a b : Int) (c : Nat → Int) : ∀ h : Nat, hs_Fk a b h (hs_G a c) = hs_G a (hs_Fk a b h c)
  | 0 => rfl
  | h + 1 => by show hs_F a b (hs_Fk a b h _) = hs_G a (hs_F a b _); rw [hs_Fk_G a b c h, hs_GF]
theorem hs_FDFk (a b : Int) (c : Nat → Int) : ∀ h : Nat, hs_F a b (hs_D (hs_Fk a b h c)) = fun n => hs_Fk a b (h + 1) (hs_D c) n + (h : Int) * hs_G a (hs_Fk a b h c) n
  | 0 => by funext n; show _ = hs_F a b (hs_D c) n + 0 * _; rw [Int.zero_mul, Int.add_zero]; rfl
  | h + 1 => by
    show hs_F a b (hs_D (hs_F a b (hs_Fk a b h c))) = fun n => hs_F a b (hs_Fk a b (h + 1) (hs_D c)) n + ((h + 1 : Nat) : Int) * hs_G a (hs_F a b (hs_Fk a b h c)) n
    rw [hs_DF]
    have h1 := hs_F_add a b 1 (hs_F a b (hs_D (hs_Fk a b h c))) (hs_G a (hs_Fk a b h c))
    have h2 : (fun n => hs_F a b (hs_D (hs_Fk a b h c)) n + hs_G a (hs_Fk a b h c) n) = fun n => hs_F a b (hs_D (hs_Fk a b h c)) n + 1 * hs_G a (hs_Fk a b h c) n := by funext n; rw [Int.one_mul]
    rw [h2, h1, hs_FDFk a b c h, hs_F_add, hs_GF]
    funext n; push_cast; grind
theorem hs_TFt {P a b : Int} (c : Nat → Int) (h : Nat) (hP : P ∣ 2 * (h : Int) + 1) : hs_q P (hs_T a b true (hs_Fk a b h c)) (hs_Fk a b (h + 1) (hs_T a b false c)) := fun n => by
  show P ∣ (2 * hs_F a b (hs_D (hs_Fk a b h c)) n + hs_G a (hs_Fk a b h c) n) - hs_Fk a b (h + 1) (fun n => 2 * hs_D c n) n
  rw [hs_FDFk, hs_Fk_mul]
  show P ∣ (2 * (hs_Fk a b (h + 1) (hs_D c) n + (h : Int) * hs_G a (hs_Fk a b h c) n) + hs_G a (hs_Fk a b h c) n) - 2 * hs_Fk a b (h + 1) (hs_D c) n
  rw [show (2 * (hs_Fk a b (h + 1) (hs_D c) n + (h : Int) * hs_G a (hs_Fk a b h c) n) + hs_G a (hs_Fk a b h c) n) - 2 * hs_Fk a b (h + 1) (hs_D c) n = (2 * (h : Int) + 1) * hs_G a (hs_Fk a b h c) n by grind]
  exact Int.dvd_mul_of_dvd_left hP
theorem hs_TFf {P a b : Int} (c : Nat → Int) (h : Nat) (hP : P ∣ 2 * (h : Int) + 1) : hs_q P (hs_T a b false (hs_Fk a b (h + 1) c)) (hs_Fk a b h (hs_T a b true c)) := fun n => by
  show P ∣ 2 * hs_D (hs_F a b (hs_Fk a b h c)) n - hs_Fk a b h (fun n => 2 * hs_F a b (hs_D c) n + hs_G a c n) n
  rw [hs_DF]
  have h2 : (fun n => 2 * hs_F a b (hs_D c) n + hs_G a c n) = fun n => (fun n => 2 * hs_F a b (hs_D c) n) n + 1 * hs_G a c n := by funext n; rw [Int.one_mul]
  rw [h2, hs_Fk_add, hs_Fk_mul, hs_Fk_F, hs_Fk_G]
  show P ∣ 2 * (hs_F a b (hs_D (hs_Fk a b h c)) n + hs_G a (hs_Fk a b h c) n) - (2 * hs_Fk a b (h + 1) (hs_D c) n + 1 * hs_G a (hs_Fk a b h c) n)
  rw [hs_FDFk]
  show P ∣ 2 * ((hs_Fk a b (h + 1) (hs_D c) n + (h : Int) * hs_G a (hs_Fk a b h c) n) + hs_G a (hs_Fk a b h c) n) - (2 * hs_Fk a b (h + 1) (hs_D c) n + 1 * hs_G a (hs_Fk a b h c) n)
  rw [show 2 * ((hs_Fk a b (h + 1) (hs_D c) n + (h : Int) * hs_G a (hs_Fk a b h c) n) + hs_G a (hs_Fk a b h c) n) - (2 * hs_Fk a b (h + 1) (hs_D c) n + 1 * hs_G a (hs_Fk a b h c) n) = (2 * (h : Int) + 1) * hs_G a (hs_Fk a b h c) n by grind]
  exact Int.dvd_mul_of_dvd_left hP
/-- 1 while the step to come is an odd one -/
def hs_o : Bool → Nat → Bool
  | s, 0 => s
  | s, j + 1 => hs_o (!s) j
theorem hs_iFk {P a b : Int} (h : Nat) (hP : P ∣ 2 * (h : Int) + 1) : ∀ (j : Nat) (s : Bool) (c : Nat → Int), hs_q P (hs_i a b s j (hs_Fk a b (if s then h else h + 1) c)) (hs_Fk a b (if hs_o s j then h else h + 1) (hs_i a b (!s) j c))
  | 0, s, c => hs_q.rf _
  | j + 1, true, c => by
    have h1 : hs_q P (hs_i a b false j (hs_T a b true (hs_Fk a b h c))) (hs_i a b false j (hs_Fk a b (h + 1) (hs_T a b false c))) := hs_q.i (hs_TFt c h hP)
    exact h1.tr (hs_iFk h hP j false (hs_T a b false c))
  | j + 1, false, c => by
    have h1 : hs_q P (hs_i a b true j (hs_T a b false (hs_Fk a b (h + 1) c))) (hs_i a b true j (hs_Fk a b h (hs_T a b true c))) := hs_q.i (hs_TFf c h hP)
    exact h1.tr (hs_iFk h hP j true (hs_T a b true c))
/-- m places up -/
def hs_K : Nat → (Nat → Int) → (Nat → Int)
  | 0, c => c
  | m + 1, c => hs_X (hs_K m c)
theorem hs_DX (c : Nat → Int) : hs_D (hs_X c) = fun n => hs_X (hs_D c) n + c n := by
  funext n
  match n with
  | 0 => show ((0 : Nat) + 1 : Int) * c 0 = 0 + c 0; grind
  | n + 1 => show (((n + 1 : Nat) : Int) + 1) * c (n + 1) = ((n : Int) + 1) * c (n + 1) + c (n + 1); push_cast; grind
theorem hs_X_add (k : Int) (c d : Nat → Int) : hs_X (fun n => c n + k * d n) = fun n => hs_X c n + k * hs_X d n := by
  funext n
  match n with
  | 0 => show (0 : Int) = 0 + k * 0; omega
  | n + 1 => rfl
theorem hs_XDK (c : Nat → Int) : ∀ m : Nat, hs_X (hs_D (hs_K m c)) = fun n => hs_K (m + 1) (hs_D c) n + (m : Int) * hs_K m c n
  | 0 => by funext n; show _ = hs_X (hs_D c) n + 0 * _; rw [Int.zero_mul, Int.add_zero]; rfl
  | m + 1 => by
    show hs_X (hs_D (hs_X (hs_K m c))) = fun n => hs_X (hs_K (m + 1) (hs_D c)) n + ((m + 1 : Nat) : Int) * hs_X (hs_K m c) n
    rw [hs_DX, hs_XDK c m]
    have h2 : (fun n => hs_K (m + 1) (hs_D c) n + (m : Int) * hs_K m c n + hs_K m c n) = fun n => hs_K (m + 1) (hs_D c) n + ((m : Int) + 1) * hs_K m c n := by funext n; grind
    show hs_X (fun n => (hs_K (m + 1) (hs_D c) n + (m : Int) * hs_K m c n) + hs_K m c n) = _
    rw [h2, hs_X_add]; funext n; push_cast; rfl
theorem hs_DK {P : Int} (c : Nat → Int) (m : Nat) (hm : P ∣ (m : Int)) : hs_q P (hs_D (hs_K m c)) (hs_K m (hs_D c)) := fun n => by
  have h := congrFun (hs_XDK c m) (n + 1)
  have h : hs_D (hs_K m c) n = hs_K m (hs_D c) n + (m : Int) * hs_K m c (n + 1) := h
  rw [h, show hs_K m (hs_D c) n + (m : Int) * hs_K m c (n + 1) - hs_K m (hs_D c) n = (m : Int) * hs_K m c (n + 1) by omega]
  exact Int.dvd_mul_of_dvd_left hm
theorem hs_KX (c : Nat → Int) : ∀ m : Nat, hs_K m (hs_X c) = hs_X (hs_K m c)
  | 0 => rfl
  | m + 1 => by show hs_X (hs_K m (hs_X c)) = _; rw [hs_KX c m]; rfl
theorem hs_K_add (k : Int) (c d : Nat → Int) : ∀ m : Nat, hs_K m (fun n => c n + k * d n) = fun n => hs_K m c n + k * hs_K m d n
  | 0 => rfl
  | m + 1 => by show hs_X (hs_K m _) = _; rw [hs_K_add k c d m, hs_X_add]; rfl
theorem hs_K_mul (k : Int) (c : Nat → Int) : ∀ m : Nat, hs_K m (fun n => k * c n) = fun n => k * hs_K m c n
  | 0 => rfl
  | m + 1 => by
    show hs_X (hs_K m _) = _; rw [hs_K_mul k c m]; funext n
    match n with
    | 0 => show (0 : Int) = k * 0; omega
    | n + 1 => rfl
theorem hs_KF (a b : Int) (m : Nat) (c : Nat → Int) : hs_K m (hs_F a b c) = hs_F a b (hs_K m c) := by
  have e : hs_F a b c = fun n => (fun n => hs_X (hs_X (hs_X c)) n + a * hs_X c n) n + b * c n := rfl
  rw [e, hs_K_add, hs_K_add, hs_KX, hs_KX, hs_KX]; rfl
theorem hs_KG (a : Int) (m : Nat) (c : Nat → Int) : hs_K m (hs_G a c) = hs_G a (hs_K m c) := by
  have e : hs_G a c = fun n => (fun n => 3 * hs_X (hs_X c) n) n + a * c n := rfl
  rw [e, hs_K_add, hs_K_mul, hs_KX, hs_KX]; rfl
theorem hs_KFk (a b : Int) (m : Nat) (c : Nat → Int) : ∀ h : Nat, hs_K m (hs_Fk a b h c) = hs_Fk a b h (hs_K m c)
  | 0 => rfl
  | h + 1 => by show hs_K m (hs_F a b _) = hs_F a b _; rw [hs_KF, hs_KFk a b m c h]
theorem hs_TK {P a b : Int} (m : Nat) (hm : P ∣ (m : Int)) (s : Bool) (c : Nat → Int) : hs_q P (hs_T a b s (hs_K m c)) (hs_K m (hs_T a b s c)) := by
  cases s with
  | true =>
    have e : hs_K m (hs_T a b true c) = fun n => 2 * hs_F a b (hs_K m (hs_D c)) n + hs_G a (hs_K m c) n := by
      have e : hs_T a b true c = fun n => (fun n => 2 * hs_F a b (hs_D c) n) n + 1 * hs_G a c n := by funext n; show 2 * hs_F a b (hs_D c) n + hs_G a c n = _; rw [Int.one_mul]
      rw [e, hs_K_add, hs_K_mul, hs_KF, hs_KG]; funext n; rw [Int.one_mul]
    rw [e]
    intro n
    have h1 := hs_mr 2 ((hs_DK c m hm).F (a := a) (b := b) n)
    show P ∣ (2 * hs_F a b (hs_D (hs_K m c)) n + hs_G a (hs_K m c) n) - (2 * hs_F a b (hs_K m (hs_D c)) n + hs_G a (hs_K m c) n)
    rwa [show (2 * hs_F a b (hs_D (hs_K m c)) n + hs_G a (hs_K m c) n) - (2 * hs_F a b (hs_K m (hs_D c)) n + hs_G a (hs_K m c) n) = 2 * (hs_F a b (hs_D (hs_K m c)) n - hs_F a b (hs_K m (hs_D c)) n) by omega]
  | false =>
    have e : hs_K m (hs_T a b false c) = fun n => 2 * hs_K m (hs_D c) n := hs_K_mul 2 (hs_D c) m
    rw [e]
    intro n
    have h1 := hs_mr 2 (hs_DK c m hm n)
    show P ∣ 2 * hs_D (hs_K m c) n - 2 * hs_K m (hs_D c) n
    rwa [← Int.mul_sub]
theorem hs_q.K {P : Int} {c d : Nat → Int} (h : hs_q P c d) : ∀ m : Nat, hs_q P (hs_K m c) (hs_K m d)
  | 0 => h
  | m + 1 => (hs_q.K h m).X
theorem hs_iK {P a b : Int} (m : Nat) (hm : P ∣ (m : Int)) : ∀ (j : Nat) (s : Bool) (c : Nat → Int), hs_q P (hs_i a b s j (hs_K m c)) (hs_K m (hs_i a b s j c))
  | 0, _, _ => hs_q.rf _
  | j + 1, s, c => (hs_q.i (hs_TK m hm s c)).tr (hs_iK m hm j (!s) (hs_T a b s c))
/-! values at a place -/
def hs_e (d : Nat) (q : Nat → Int) (r : Int) : Int := hs_s d (fun i => q i * r ^ i)
def hs_v (P : Int) (q : Nat → Int) (r v : Int) : Prop := ∃ d0 : Nat, ∀ d, d0 ≤ d → P ∣ hs_e d q r - v
def hs_fs (q : Nat → Int) : Prop := ∃ d : Nat, ∀ n, d ≤ n → q n = 0
theorem hs_e_X (d : Nat) (q : Nat → Int) (r : Int) : hs_e (d + 1) (hs_X q) r = r * hs_e d q r := by
  unfold hs_e
  rw [hs_s_shift, ← hs_s_mul]
  show (0 : Int) * r ^ 0 + hs_s d (fun i => q i * r ^ (i + 1)) = _
  rw [Int.zero_mul, Int.zero_add]
  exact hs_s_ext (fun i _ => by rw [Int.pow_succ]; grind)
theorem hs_v_X {P : Int} {q : Nat → Int} {r v : Int} (h : hs_v P q r v) : hs_v P (hs_X q) r (r * v) := by
  obtain ⟨d0, h⟩ := h
  refine ⟨d0 + 1, fun d hd => ?_⟩
  obtain ⟨e, rfl⟩ : ∃ e, d = e + 1 := ⟨d - 1, by omega⟩
  rw [hs_e_X, ← Int.mul_sub]; exact hs_mr r (h e (by omega))
theorem hs_v_lin {P : Int} {q q' : Nat → Int} {r v v' : Int} (k l : Int) (h : hs_v P q r v) (h' : hs_v P q' r v') : hs_v P (fun n => k * q n + l * q' n) r (k * v + l * v') := by
  obtain ⟨d0, h⟩ := h
  obtain ⟨d1, h'⟩ := h'
  refine ⟨d0 + d1, fun d hd => ?_⟩
  have e : hs_e d (fun n => k * q n + l * q' n) r = k * hs_e d q r + l * hs_e d q' r := by
    unfold hs_e
    rw [← hs_s_mul, ← hs_s_mul, ← hs_s_add]; exact hs_s_ext (fun i _ => by grind)
  rw [e, show k * hs_e d q r + l * hs_e d q' r - (k * v + l * v') = k * (hs_e d q r - v) + l * (hs_e d q' r - v') by grind]
  exact Int.dvd_add (hs_mr k (h d (by omega))) (hs_mr l (h' d (by omega)))
theorem hs_v_add {P : Int} {q q' : Nat → Int} {r v v' : Int} (h : hs_v P q r v) (h' : hs_v P q' r v') : hs_v P (fun n => q n + q' n) r (v + v') := by
  have := hs_v_lin 1 1 h h'
  simpa only [Int.one_mul] using this
theorem hs_v_mul {P : Int} {q : Nat → Int} {r v : Int} (k : Int) (h : hs_v P q r v) : hs_v P (fun n => k * q n) r (k * v) := by
  have := hs_v_lin k 0 h h
  simpa only [Int.zero_mul, Int.add_zero] using this
theorem hs_v_cong {P : Int} {q q' : Nat → Int} {r v : Int} (hq : hs_q P q q') (h : hs_v P q r v) : hs_v P q' r v := by
  obtain ⟨d0, h⟩ := h
  refine ⟨d0, fun d hd => ?_⟩
  have h1 : P ∣ hs_e d q r - hs_e d q' r := by
    have e : hs_e d q r - hs_e d q' r = hs_s d (fun i => (q i - q' i) * r ^ i) := by
      have e1 : hs_s d (fun i => (q i - q' i) * r ^ i) = hs_s d (fun i => q i * r ^ i + (-1) * (q' i * r ^ i)) := hs_s_ext (fun i _ => by grind)
      rw [e1, hs_s_add, hs_s_mul]; unfold hs_e; omega
    rw [e]; exact hs_s_dvd (fun i _ => Int.dvd_mul_of_dvd_left (hq i))
  have h2 := h d hd
  have := Int.dvd_sub h2 h1
  rwa [show hs_e d q r - v - (hs_e d q r - hs_e d q' r) = hs_e d q' r - v by omega] at this
theorem hs_v_eq {P : Int} {q : Nat → Int} {r v v' : Int} (hv : P ∣ v - v') (h : hs_v P q r v) : hs_v P q r v' := by
  obtain ⟨d0, h⟩ := h
  refine ⟨d0, fun d hd => ?_⟩
  have := Int.dvd_add (h d hd) hv
  rwa [show hs_e d q r - v + (v - v') = hs_e d q r - v' by omega] at this
theorem hs_v_un {P : Int} {q : Nat → Int} {r v v' : Int} (h : hs_v P q r v) (h' : hs_v P q r v') : P ∣ v - v' := by
  obtain ⟨d0, h⟩ := h
  obtain ⟨d1, h'⟩ := h'
  have := Int.dvd_sub (h' (d0 + d1) (by omega)) (h (d0 + d1) (by omega))
  rwa [show hs_e (d0 + d1) q r - v' - (hs_e (d0 + d1) q r - v) = v - v' by omega] at this
theorem hs_v_of {P : Int} {q : Nat → Int} {r : Int} {d : Nat} (h : ∀ n, d ≤ n → q n = 0) : hs_v P q r (hs_e d q r) := by
  refine ⟨d, fun e he => ?_⟩
  have : hs_e e q r = hs_e d q r := hs_s_le he (fun i h1 _ => by show q i * r ^ i = 0; rw [h i h1, Int.zero_mul])
  rw [this, Int.sub_self]; exact Int.dvd_zero P
theorem hs_v_ex {P : Int} {q : Nat → Int} (r : Int) (h : hs_fs q) : ∃ v, hs_v P q r v := by
  obtain ⟨d, h⟩ := h; exact ⟨_, hs_v_of h⟩
theorem hs_v_F {P a b : Int} {q : Nat → Int} {r v : Int} (h : hs_v P q r v) : hs_v P (hs_F a b q) r ((r ^ 3 + a * r + b) * v) := by
  have h3 := hs_v_X (hs_v_X (hs_v_X h))
  have h1 := hs_v_lin 1 a h3 (hs_v_X h)
  have h0 := hs_v_lin 1 b h1 h
  refine hs_v_eq (v := 1 * (1 * (r * (r * (r * v))) + a * (r * v)) + b * v) ?_ (hs_v_cong (hs_q.of ?_) h0)
  · rw [show 1 * (1 * (r * (r * (r * v))) + a * (r * v)) + b * v - (r ^ 3 + a * r + b) * v = 0 by grind]; exact Int.dvd_zero P
  · funext n; show 1 * (1 * hs_X (hs_X (hs_X q)) n + a * hs_X q n) + b * q n = hs_X (hs_X (hs_X q)) n + a * hs_X q n + b * q n; omega
theorem hs_v_Fk {P a b : Int} {q : Nat → Int} {r v : Int} (h : hs_v P q r v) : ∀ k : Nat, hs_v P (hs_Fk a b k q) r ((r ^ 3 + a * r + b) ^ k * v)
  | 0 => by
    rw [Int.pow_zero, Int.one_mul]; exact h
  | k + 1 => by
    have := hs_v_F (a := a) (b := b) (hs_v_Fk (a := a) (b := b) h k)
    rw [Int.pow_succ, Int.mul_comm ((r ^ 3 + a * r + b) ^ k), Int.mul_assoc]; exact this
theorem hs_v_K {P : Int} {q : Nat → Int} {r v : Int} (h : hs_v P q r v) : ∀ m : Nat, hs_v P (hs_K m q) r (r ^ m * v)
  | 0 => by
    rw [Int.pow_zero, Int.one_mul]; exact h
  | m + 1 => by
    have := hs_v_X (hs_v_K h m)
    rw [Int.pow_succ, Int.mul_comm (r ^ m), Int.mul_assoc]; exact this
theorem hs_v_L {P : Int} {r : Int} {v : Nat → Int} {c : Nat → Nat → Int} {w : Nat → Int} : ∀ {U : Nat}, (∀ u, u < U → hs_v P (c u) r (w u)) → hs_v P (hs_L U v c) r (hs_s U (fun u => v u * w u))
  | 0, _ => by
    refine ⟨0, fun d _ => ?_⟩
    show P ∣ hs_s d (fun i => hs_s 0 (fun u => v u * c u i) * r ^ i) - 0
    rw [hs_s_ext (g := fun _ => 0) (fun i _ => by show (0 : Int) * _ = 0; exact Int.zero_mul _), hs_s_zero]; exact Int.dvd_zero P
  | U + 1, h => by
    have h1 := hs_v_L (v := v) (U := U) (fun u hu => h u (Nat.lt_succ_of_lt hu))
    have h2 := hs_v_lin 1 (v U) h1 (h U (Nat.lt_succ_self U))
    rw [Int.one_mul] at h2
    refine hs_v_cong (hs_q.of ?_) h2
    funext n; show 1 * hs_s U (fun u => v u * c u n) + v U * c U n = hs_s U (fun u => v u * c u n) + v U * c U n; omega
/-! derivatives -/
def hs_Dk : Nat → (Nat → Int) → (Nat → Int)
  | 0, q => q
  | i + 1, q => hs_Dk i (hs_D q)
theorem hs_D_lin (k l : Int) (c d : Nat → Int) : hs_D (fun n => k * c n + l * d n) = fun n => k * hs_D c n + l * hs_D d n := by
  funext n; show ((n : Int) + 1) * (k * c (n + 1) + l * d (n + 1)) = k * (((n : Int) + 1) * c (n + 1)) + l * (((n : Int) + 1) * d (n + 1)); grind
theorem hs_Dk_lin (k l : Int) : ∀ (i : Nat) (c d : Nat → Int), hs_Dk i (fun n => k * c n + l * d n) = fun n => k * hs_Dk i c n + l * hs_Dk i d n
  | 0, _, _ => rfl
  | i + 1, c, d => by show hs_Dk i (hs_D _) = _; rw [hs_D_lin, hs_Dk_lin k l i]; rfl
theorem hs_Dk_X : ∀ (i : Nat) (q : Nat → Int), hs_Dk (i + 1) (hs_X q) = fun n => hs_X (hs_Dk (i + 1) q) n + ((i : Int) + 1) * hs_Dk i q n
  | 0, q => by
    show hs_D (hs_X q) = _
    rw [hs_DX]; funext n; show _ = hs_X (hs_D q) n + ((0 : Int) + 1) * q n; omega
  | i + 1, q => by
    show hs_Dk (i + 1) (hs_D (hs_X q)) = _
    rw [hs_DX]
    have e : (fun n => hs_X (hs_D q) n + q n) = fun n => 1 * hs_X (hs_D q) n + 1 * q n := by funext n; omega
    rw [e, hs_Dk_lin, hs_Dk_X i (hs_D q)]
    funext n
    show 1 * (hs_X (hs_Dk (i + 1) (hs_D q)) n + ((i : Int) + 1) * hs_Dk i (hs_D q) n) + 1 * hs_Dk i (hs_D q) n = hs_X (hs_Dk (i + 1) (hs_D q)) n + (((i + 1 : Nat) : Int) + 1) * hs_Dk i (hs_D q) n
    push_cast; grind
theorem hs_q.Dk {P : Int} : ∀ (i : Nat) {c d : Nat → Int}, hs_q P c d → hs_q P (hs_Dk i c) (hs_Dk i d)
  | 0, _, _, h => h
  | i + 1, _, _, h => hs_q.Dk i h.D
def hs_V (P : Int) (r : Int) (m : Nat) (q : Nat → Int) : Prop := ∀ i, i < m → hs_v P (hs_Dk i q) r 0
theorem hs_V_cong {P r : Int} {m : Nat} {q q' : Nat → Int} (hq : hs_q P q q') (h : hs_V P r m q) : hs_V P r m q' := fun i hi => hs_v_cong (hq.Dk i) (h i hi)
theorem hs_V_X {P r : Int} {m : Nat} {q : Nat → Int} (h : hs_V P r m q) : hs_V P r m (hs_X q) := fun i hi => by
  match i, hi with
  | 0, hi => have := hs_v_X (h 0 hi); rwa [Int.mul_zero] at this
  | i + 1, hi =>
    rw [hs_Dk_X]
    have h1 := hs_v_X (h (i + 1) hi)
    have h2 := hs_v_mul ((i : Int) + 1) (h i (by omega))
    have := hs_v_add h1 h2
    rwa [Int.mul_zero, Int.mul_zero, Int.add_zero] at this
theorem hs_V_lin {P r : Int} {m : Nat} {q q' : Nat → Int} (k l : Int) (h : hs_V P r m q) (h' : hs_V P r m q') : hs_V P r m (fun n => k * q n + l * q' n) := fun i hi => by
  rw [hs_Dk_lin]
  have := hs_v_lin k l (h i hi) (h' i hi)
  rwa [Int.mul_zero, Int.mul_zero, Int.add_zero] at this
theorem hs_V_G {P r a : Int} {m : Nat} {q : Nat → Int} (h : hs_V P r m q) : hs_V P r m (hs_G a q) := hs_V_lin 3 a (hs_V_X (hs_V_X h)) h
theorem hs_top_X {P r : Int} {i : Nat} {q : Nat → Int} {v : Int} (h : hs_V P r i q) (hv : hs_v P (hs_Dk i q) r v) : hs_v P (hs_Dk i (hs_X q)) r (r * v) := by
  match i, h, hv with
  | 0, _, hv => exact hs_v_X hv
  | i + 1, h, hv =>
    rw [hs_Dk_X]
    have h1 := hs_v_X hv
    have h2 := hs_v_mul ((i : Int) + 1) (h i (by omega))
    have := hs_v_add h1 h2
    rwa [Int.mul_zero, Int.add_zero] at this
theorem hs_top_F {P r a b : Int} {i : Nat} {q : Nat → Int} {v : Int} (h : hs_V P r i q) (hv : hs_v P (hs_Dk i q) r v) : hs_v P (hs_Dk i (hs_F a b q)) r ((r ^ 3 + a * r + b) * v) := by
  have e : hs_F a b q = fun n => 1 * (fun n => 1 * hs_X (hs_X (hs_X q)) n + a * hs_X q n) n + b * q n := by
    funext n; show hs_X (hs_X (hs_X q)) n + a * hs_X q n + b * q n = 1 * (1 * hs_X (hs_X (hs_X q)) n + a * hs_X q n) + b * q n; omega
  rw [e, hs_Dk_lin, hs_Dk_lin]
  have h1 := hs_top_X h hv
  have h3 := hs_top_X (hs_V_X (hs_V_X h)) (hs_top_X (hs_V_X h) h1)
  have := hs_v_lin 1 b (hs_v_lin 1 a h3 h1) hv
  refine hs_v_eq ?_ this
  rw [show 1 * (1 * (r * (r * (r * v))) + a * (r * v)) + b * v - (r ^ 3 + a * r + b) * v = 0 by grind]; exact Int.dvd_zero P
theorem hs_fs_D {q : Nat → Int} (h : hs_fs q) : hs_fs (hs_D q) := by
  obtain ⟨d, h⟩ := h
  exact ⟨d, fun n hn => by show ((n : Int) + 1) * q (n + 1) = 0; rw [h (n + 1) (by omega), Int.mul_zero]⟩
theorem hs_fs_Dk : ∀ (i : Nat) {q : Nat → Int}, hs_fs q → hs_fs (hs_Dk i q)
  | 0, _, h => h
  | i + 1, _, h => hs_fs_Dk i (hs_fs_D h)
theorem hs_fs_X {q : Nat → Int} (h : hs_fs q) : hs_fs (hs_X q) := by
  obtain ⟨d, h⟩ := h
  refine ⟨d + 1, fun n hn => ?_⟩
  match n, hn with
  | n + 1, hn => exact h n (by omega)
theorem hs_fs_lin {q q' : Nat → Int} (k l : Int) (h : hs_fs q) (h' : hs_fs q') : hs_fs (fun n => k * q n + l * q' n) := by
  obtain ⟨d, h⟩ := h
  obtain ⟨d', h'⟩ := h'
  exact ⟨d + d', fun n hn => by show k * q n + l * q' n = 0; rw [h n (by omega), h' n (by omega)]; omega⟩
theorem hs_fs_F {a b : Int} {q : Nat → Int} (h : hs_fs q) : hs_fs (hs_F a b q) := by
  have e : hs_F a b q = fun n => 1 * (fun n => 1 * hs_X (hs_X (hs_X q)) n + a * hs_X q n) n + b * q n := by
    funext n; show hs_X (hs_X (hs_X q)) n + a * hs_X q n + b * q n = 1 * (1 * hs_X (hs_X (hs_X q)) n + a * hs_X q n) + b * q n; omega
  rw [e]; exact hs_fs_lin 1 b (hs_fs_lin 1 a (hs_fs_X (hs_fs_X (hs_fs_X h))) (hs_fs_X h)) h
theorem hs_fs_T {a b : Int} {s : Bool} {q : Nat → Int} (h : hs_fs q) : hs_fs (hs_T a b s q) := by
  cases s with
  | true =>
    have e : hs_T a b true q = fun n => 2 * hs_F a b (hs_D q) n + 1 * (fun n => 3 * hs_X (hs_X q) n + a * q n) n := by
      funext n; show 2 * hs_F a b (hs_D q) n + (3 * hs_X (hs_X q) n + a * q n) = _; rw [Int.one_mul]
    rw [e]; exact hs_fs_lin 2 1 (hs_fs_F (hs_fs_D h)) (hs_fs_lin 3 a (hs_fs_X (hs_fs_X h)) h)
  | false =>
    have e : hs_T a b false q = fun n => 2 * hs_D q n + 0 * hs_D q n := by funext n; show 2 * hs_D q n = _; omega
    rw [e]; exact hs_fs_lin 2 0 (hs_fs_D h) (hs_fs_D h)
theorem hs_back {P r a b : Int} (hE : ∀ a b : Int, P ∣ a * b → P ∣ a ∨ P ∣ b) (h2 : ¬ P ∣ 2) (hf : ¬ P ∣ r ^ 3 + a * r + b) {s : Bool} {m : Nat} {q : Nat → Int} (hq : hs_fs q) (h0 : hs_v P q r 0) (hT : hs_V P r m (hs_T a b s q)) : ∀ i, i ≤ m + 1 → hs_V P r i q
  | 0, _ => fun i hi => absurd hi (Nat.not_lt_zero i)
  | i + 1, hi => by
    have hV := hs_back hE h2 hf hq h0 hT i (by omega)
    intro j hj
    by_cases e : j = i
    · subst e
      match j, hV, hi with
      | 0, _, _ => exact h0
      | k + 1, hV, hi =>
        obtain ⟨v, hv⟩ := hs_v_ex (P := P) r (hs_fs_Dk (k + 1) hq)
        have hVD : hs_V P r k (hs_D q) := fun x hx => hV (x + 1) (by omega)
        have hz := hT k (by omega)
        have hd : P ∣ v := by
          cases s with
          | true =>
            have hF := hs_top_F (a := a) (b := b) hVD hv
            have hG := hs_V_G (a := a) hV k (by omega)
            have e1 : hs_T a b true q = fun n => 2 * hs_F a b (hs_D q) n + 1 * hs_G a q n := by funext n; show 2 * hs_F a b (hs_D q) n + hs_G a q n = _; rw [Int.one_mul]
            rw [e1, hs_Dk_lin] at hz
            have := hs_v_un (hs_v_lin 2 1 hF hG) hz
            rw [show 2 * ((r ^ 3 + a * r + b) * v) + 1 * 0 - 0 = 2 * ((r ^ 3 + a * r + b) * v) by omega] at this
            rcases hE _ _ this with h | h
            · exact absurd h h2
            · rcases hE _ _ h with h | h
              · exact absurd h hf
              · exact h
          | false =>
            have e1 : hs_T a b false q = fun n => 2 * hs_D q n + 0 * hs_D q n := by funext n; show 2 * hs_D q n = _; omega
            rw [e1, hs_Dk_lin] at hz
            have := hs_v_un (hs_v_lin 2 0 hv hv) hz
            rw [show 2 * v + 0 * v - 0 = 2 * v by omega] at this
            rcases hE _ _ this with h | h
            · exact absurd h h2
            · exact h
        exact hs_v_eq (by rw [Int.sub_zero]; exact hd) hv
    · exact hV j (by omega)
theorem hs_local {P r a b : Int} (hE : ∀ a b : Int, P ∣ a * b → P ∣ a ∨ P ∣ b) (h2 : ¬ P ∣ 2) (hf : ¬ P ∣ r ^ 3 + a * r + b) : ∀ (M : Nat) (s : Bool) (q : Nat → Int), hs_fs q → (∀ j, j < M → hs_v P (hs_i a b s j q) r 0) → hs_V P r M q
  | 0, _, _, _, _ => fun i hi => absurd hi (Nat.not_lt_zero i)
  | M + 1, s, q, hq, h => hs_back hE h2 hf hq (h 0 (by omega)) (hs_local hE h2 hf M (!s) (hs_T a b s q) (hs_fs_T hq) (fun j hj => h (j + 1) (by omega))) (M + 1) (by omega)
/-! zeros -/
theorem hs_div {P r : Int} {q : Nat → Int} {d : Nat} (hd : ∀ n, d + 1 ≤ n → q n = 0) (h0 : hs_v P q r 0) : ∃ q1 : Nat → Int, (∀ n, d ≤ n → q1 n = 0) ∧ hs_q P q (fun n => 1 * hs_X q1 n + (-r) * q1 n) := by
  refine ⟨fun n => hs_s d (fun i => q (n + 1 + i) * r ^ i), fun n hn => ?_, fun n => ?_⟩
  · show hs_s d (fun i => q (n + 1 + i) * r ^ i) = 0
    rw [hs_s_ext (g := fun _ => 0) (fun i _ => by show q (n + 1 + i) * r ^ i = 0; rw [hd _ (by omega), Int.zero_mul]), hs_s_zero]
  · have e : ∀ n : Nat, r * hs_s d (fun i => q (n + 1 + i) * r ^ i) = hs_s d (fun i => q (n + i) * r ^ i) + q (n + d) * r ^ d - q n := by
      intro n
      have h1 : hs_s (d + 1) (fun i => q (n + i) * r ^ i) = q (n + 0) * r ^ 0 + hs_s d (fun i => q (n + (i + 1)) * r ^ (i + 1)) := hs_s_shift _ d
      have h2 : hs_s (d + 1) (fun i => q (n + i) * r ^ i) = hs_s d (fun i => q (n + i) * r ^ i) + q (n + d) * r ^ d := rfl
      have h3 : r * hs_s d (fun i => q (n + 1 + i) * r ^ i) = hs_s d (fun i => q (n + (i + 1)) * r ^ (i + 1)) := by
        rw [← hs_s_mul]; exact hs_s_ext (fun i _ => by rw [Int.pow_succ, show n + 1 + i = n + (i + 1) by omega]; grind)
      rw [h3, ← h2, h1, Int.pow_zero, Int.mul_one]; show _ = q n + _ - q n; omega
    match n with
    | 0 =>
      have h1 := e 0
      have h2 := hs_v_un (hs_v_of (P := P) (r := r) hd) h0
      have h3 : hs_e (d + 1) q r = hs_s d (fun i => q (0 + i) * r ^ i) + q (0 + d) * r ^ d := by
        show hs_s d (fun i => q i * r ^ i) + q d * r ^ d = _
        rw [Nat.zero_add]; congr 1; exact hs_s_ext (fun i _ => by rw [Nat.zero_add])
      show P ∣ q 0 - (1 * 0 + (-r) * hs_s d (fun i => q (0 + 1 + i) * r ^ i))
      rw [show q 0 - (1 * 0 + (-r) * hs_s d (fun i => q (0 + 1 + i) * r ^ i)) = q 0 + r * hs_s d (fun i => q (0 + 1 + i) * r ^ i) by grind, h1, ← h3]
      rw [Int.sub_zero] at h2
      rwa [show q 0 + (hs_e (d + 1) q r - q 0) = hs_e (d + 1) q r by omega]
    | n + 1 =>
      have h1 := e (n + 1)
      show P ∣ q (n + 1) - (1 * hs_s d (fun i => q (n + 1 + i) * r ^ i) + (-r) * hs_s d (fun i => q (n + 1 + 1 + i) * r ^ i))
      rw [show q (n + 1) - (1 * hs_s d (fun i => q (n + 1 + i) * r ^ i) + (-r) * hs_s d (fun i => q (n + 1 + 1 + i) * r ^ i)) = q (n + 1) - hs_s d (fun i => q (n + 1 + i) * r ^ i) + r * hs_s d (fun i => q (n + 1 + 1 + i) * r ^ i) by grind, h1, hd (n + 1 + d) (by omega)]
      rw [show q (n + 1) - hs_s d (fun i => q (n + 1 + i) * r ^ i) + (hs_s d (fun i => q (n + 1 + i) * r ^ i) + 0 * r ^ d - q (n + 1)) = 0 by grind]; exact Int.dvd_zero P
theorem hs_V_same {P : Int} {p : Nat} (hE : ∀ a b : Int, P ∣ a * b → P ∣ a ∨ P ∣ b) (hp : ∀ i : Nat, 0 < i → i < p → ¬ P ∣ (i : Int)) {r : Int} {q1 : Nat → Int} (hf : hs_fs q1) {m : Nat} (hm : m + 1 ≤ p) (h : hs_V P r (m + 1) (fun n => 1 * hs_X q1 n + (-r) * q1 n)) : hs_V P r m q1 := fun i hi => by
  have h1 := h (i + 1) (by omega)
  rw [hs_Dk_lin, hs_Dk_X] at h1
  obtain ⟨v1, hv1⟩ := hs_v_ex (P := P) r (hs_fs_Dk (i + 1) hf)
  obtain ⟨v0, hv0⟩ := hs_v_ex (P := P) r (hs_fs_Dk i hf)
  have h2 := hs_v_lin 1 (-r) (hs_v_add (hs_v_X hv1) (hs_v_mul ((i : Int) + 1) hv0)) hv1
  have h3 := hs_v_un h2 h1
  rw [show 1 * (r * v1 + ((i : Int) + 1) * v0) + (-r) * v1 - 0 = ((i : Int) + 1) * v0 by grind] at h3
  rcases hE _ _ h3 with h | h
  · exact absurd (by push_cast; exact h) (hp (i + 1) (by omega) (by omega))
  · exact hs_v_eq (by rw [Int.sub_zero]; exact h) hv0
theorem hs_V_other {P : Int} (hE : ∀ a b : Int, P ∣ a * b → P ∣ a ∨ P ∣ b) {r r' : Int} (hr : ¬ P ∣ r' - r) {q1 : Nat → Int} (hf : hs_fs q1) {m : Nat} (h : hs_V P r' m (fun n => 1 * hs_X q1 n + (-r) * q1 n)) : ∀ i, i ≤ m → hs_V P r' i q1
  | 0, _ => fun i hi => absurd hi (Nat.not_lt_zero i)
  | i + 1, hi => by
    have hV := hs_V_other hE hr hf h i (by omega)
    intro j hj
    by_cases e : j = i
    · subst e
      obtain ⟨v0, hv0⟩ := hs_v_ex (P := P) r' (hs_fs_Dk j hf)
      have h1 := h j (by omega)
      rw [hs_Dk_lin] at h1
      have h2 := hs_v_un (hs_v_lin 1 (-r) (hs_top_X hV hv0) hv0) h1
      rw [show 1 * (r' * v0) + (-r) * v0 - 0 = (r' - r) * v0 by grind] at h2
      rcases hE _ _ h2 with h | h
      · exact absurd h hr
      · exact hs_v_eq (by rw [Int.sub_zero]; exact h) hv0
    · exact hV j (by omega)
theorem hs_divM {P : Int} {p : Nat} (hE : ∀ a b : Int, P ∣ a * b → P ∣ a ∨ P ∣ b) (hp : ∀ i : Nat, 0 < i → i < p → ¬ P ∣ (i : Int)) {r : Int} : ∀ (M d : Nat) (q : Nat → Int), M ≤ p → (∀ n, d ≤ n → q n = 0) → hs_V P r M q → (∃ n, ¬ P ∣ q n) →
    ∃ (q1 : Nat → Int) (d1 : Nat), d1 + M = d ∧ (∀ n, d1 ≤ n → q1 n = 0) ∧ (∃ n, ¬ P ∣ q1 n) ∧ ∀ (r' : Int) (m : Nat), ¬ P ∣ r' - r → hs_V P r' m q → hs_V P r' m q1
  | 0, d, q, _, hd, _, hn => ⟨q, d, rfl, hd, hn, fun _ _ _ h => h⟩
  | M + 1, 0, q, _, hd, _, ⟨n, hn⟩ => absurd (by rw [hd n (Nat.zero_le n)]; exact Int.dvd_zero P) hn
  | M + 1, d + 1, q, hM, hd, hV, ⟨n, hn⟩ => by
    obtain ⟨q1, hd1, hq⟩ := hs_div hd (hV 0 (by omega))
    have hf : hs_fs q1 := ⟨d, hd1⟩
    have hV1 := hs_V_same hE hp hf hM (hs_V_cong hq hV)
    have hn1 : ∃ n, ¬ P ∣ q1 n := by
      refine Classical.byContradiction fun hc => hn ?_
      have hz : ∀ n, P ∣ q1 n := fun n => Classical.byContradiction fun h => hc ⟨n, h⟩
      have hX : P ∣ hs_X q1 n := by
        match n with
        | 0 => exact Int.dvd_zero P
        | n + 1 => exact hz n
      have h1 := Int.dvd_add (hq n) (Int.dvd_add (hs_mr 1 hX) (hs_mr (-r) (hz n)))
      rwa [Int.sub_add_cancel] at h1
    obtain ⟨q2, d2, e2, hd2, hn2, hT⟩ := hs_divM hE hp M d q1 (by omega) hd1 hV1 hn1
    exact ⟨q2, d2, by omega, hd2, hn2, fun r' m hr h => hT r' m hr (hs_V_other hE hr hf (hs_V_cong hq h) m (Nat.le_refl m))⟩
theorem hs_count {P : Int} {p : Nat} (hE : ∀ a b : Int, P ∣ a * b → P ∣ a ∨ P ∣ b) (hp : ∀ i : Nat, 0 < i → i < p → ¬ P ∣ (i : Int)) (M : Nat) (hM : M ≤ p) : ∀ (S : List Int) (d : Nat) (q : Nat → Int), (∀ n, d ≤ n → q n = 0) → (∃ n, ¬ P ∣ q n) → (∀ r, r ∈ S → hs_V P r M q) → S.Pairwise (fun x y => ¬ P ∣ y - x) → M * S.length < d
  | [], d, q, hd, ⟨n, hn⟩, _, _ => by
    refine Nat.lt_of_not_le fun h => hn ?_
    rw [hd n (by simp at h; omega)]; exact Int.dvd_zero P
  | r :: S, d, q, hd, hn, hV, hS => by
    obtain ⟨q1, d1, e1, hd1, hn1, hT⟩ := hs_divM hE hp M d q hM hd (hV r List.mem_cons_self) hn
    obtain ⟨hr, hS⟩ := List.pairwise_cons.mp hS
    have := hs_count hE hp M hM S d1 q1 hd1 hn1 (fun x hx => hT x M (hr x hx) (hV x (List.mem_cons_of_mem r hx))) hS
    rw [List.length_cons, Nat.mul_succ]; omega
/-! the chosen sum of powers -/
def hs_d (k : Nat) : Nat → Int := fun n => if n = k then 1 else 0
theorem hs_X_d (k : Nat) : hs_X (hs_d k) = hs_d (k + 1) := by
  funext n
  match n with
  | 0 => show (0 : Int) = if 0 = k + 1 then 1 else 0; rw [if_neg (by omega)]
  | n + 1 => show (if n = k then (1 : Int) else 0) = if n + 1 = k + 1 then 1 else 0; by_cases e : n = k <;> simp [e]
theorem hs_K_d (k : Nat) : ∀ m : Nat, hs_K m (hs_d k) = hs_d (k + m)
  | 0 => rfl
  | m + 1 => by show hs_X (hs_K m (hs_d k)) = _; rw [hs_K_d k m, hs_X_d]; rfl
theorem hs_Fk_d (a b : Int) (x : Nat) : ∀ h : Nat, hs_Fk a b h (hs_d x) (x + 3 * h) = 1 ∧ ∀ n, x + 3 * h < n → hs_Fk a b h (hs_d x) n = 0
  | 0 => ⟨by show (if x + 3 * 0 = x then (1 : Int) else 0) = 1; rw [if_pos (by omega)], fun n hn => by show (if n = x then (1 : Int) else 0) = 0; rw [if_neg (by omega)]⟩
  | h + 1 => by
    obtain ⟨h1, h2⟩ := hs_Fk_d a b x h
    have e : ∀ n, hs_Fk a b (h + 1) (hs_d x) (n + 3) = hs_Fk a b h (hs_d x) n + a * hs_Fk a b h (hs_d x) (n + 2) + b * hs_Fk a b h (hs_d x) (n + 3) := fun n => rfl
    refine ⟨?_, fun n hn => ?_⟩
    · rw [show x + 3 * (h + 1) = x + 3 * h + 3 by omega, e, h1, h2 _ (by omega), h2 _ (by omega)]; omega
    · obtain ⟨n, rfl⟩ : ∃ m, n = m + 3 := ⟨n - 3, by omega⟩
      rw [e, h2 _ (by omega), h2 _ (by omega), h2 _ (by omega)]; omega
theorem hs_sX {q : Nat → Int} {d : Nat} (h : ∀ n, d ≤ n → q n = 0) : ∀ n, d + 1 ≤ n → hs_X q n = 0 := fun n hn => by
  match n, hn with
  | n + 1, hn => exact h n (by omega)
theorem hs_sK {q : Nat → Int} {d : Nat} (h : ∀ n, d ≤ n → q n = 0) : ∀ m n, d + m ≤ n → hs_K m q n = 0
  | 0, n, hn => h n hn
  | m + 1, n, hn => hs_sX (d := d + m) (hs_sK h m) n (by omega)
theorem hs_sF {a b : Int} {q : Nat → Int} {d : Nat} (h : ∀ n, d ≤ n → q n = 0) : ∀ n, d + 3 ≤ n → hs_F a b q n = 0 := fun n hn => by
  show hs_X (hs_X (hs_X q)) n + a * hs_X q n + b * q n = 0
  rw [hs_sX (hs_sX (hs_sX h)) n (by omega), hs_sX h n (by omega), h n (by omega)]; omega
theorem hs_sT {a b : Int} {q : Nat → Int} {d : Nat} (h : ∀ n, d ≤ n → q n = 0) : ∀ s n, (if s then d + 2 else d - 1) ≤ n → hs_T a b s q n = 0
  | true, n, hn => by
    have hn : d + 2 ≤ n := hn
    have hD : ∀ m, d ≤ m + 1 → hs_D q m = 0 := fun m hm => by show ((m : Int) + 1) * q (m + 1) = 0; rw [h _ hm, Int.mul_zero]
    show 2 * (hs_X (hs_X (hs_X (hs_D q))) n + a * hs_X (hs_D q) n + b * hs_D q n) + (3 * hs_X (hs_X q) n + a * q n) = 0
    have e1 : hs_X (hs_X (hs_X (hs_D q))) n = 0 := by
      match n, hn with
      | 2, _ => rfl
      | n + 3, hn => exact hD n (by omega)
    have e2 : hs_X (hs_D q) n = 0 := by
      match n, hn with
      | n + 1, hn => exact hD n (by omega)
    rw [e1, e2, hD n (by omega), hs_sX (hs_sX h) n (by omega), h n (by omega)]; omega
  | false, n, hn => by
    have hn : d - 1 ≤ n := hn
    show 2 * (((n : Int) + 1) * q (n + 1)) = 0
    rw [h _ (by omega)]; omega
def hs_b : Bool → Nat → Nat → Nat
  | _, 0, d => d
  | true, j + 1, d => hs_b false j (d + 2)
  | false, j + 1, d => hs_b true j (d - 1)
theorem hs_si {a b : Int} : ∀ (j : Nat) (s : Bool) (q : Nat → Int) (d : Nat), (∀ n, d ≤ n → q n = 0) → ∀ n, hs_b s j d ≤ n → hs_i a b s j q n = 0
  | 0, _, _, _, h => h
  | j + 1, true, q, d, h => hs_si j false (hs_T a b true q) (d + 2) (hs_sT h true)
  | j + 1, false, q, d, h => hs_si j true (hs_T a b false q) (d - 1) (hs_sT h false)
theorem hs_b_le : ∀ (j d : Nat), 1 ≤ d → hs_b true j d ≤ d + j / 2 + 2 ∧ hs_b false j d + (if hs_o true j then 0 else 3) ≤ d + j / 2 + 2
  | 0, d, _ => ⟨by show d ≤ _; omega, by show d + 0 ≤ _; omega⟩
  | 1, d, hd => ⟨by show d + 2 ≤ _; omega, by show d - 1 + 3 ≤ _; omega⟩
  | j + 2, d, hd => by
    obtain ⟨h1, h2⟩ := hs_b_le j (d + 1) (by omega)
    refine ⟨?_, ?_⟩
    · show hs_b true j (d + 2 - 1) ≤ _
      rw [show d + 2 - 1 = d + 1 by omega]; omega
    · show hs_b false j (d - 1 + 2) + (if hs_o true j then 0 else 3) ≤ _
      rw [show d - 1 + 2 = d + 1 by omega]; omega
theorem hs_powmod {P x y : Int} (h : P ∣ x - y) : ∀ k : Nat, P ∣ x ^ k - y ^ k
  | 0 => by rw [Int.pow_zero, Int.pow_zero, Int.sub_self]; exact Int.dvd_zero P
  | k + 1 => by
    have := hs_powmod h k
    rw [Int.pow_succ, Int.pow_succ, show x ^ k * x - y ^ k * y = x * (x ^ k - y ^ k) + y ^ k * (x - y) by grind]
    exact Int.dvd_add (hs_mr x this) (hs_mr _ h)
theorem hs_fs_i {a b : Int} : ∀ (j : Nat) (s : Bool) (q : Nat → Int), hs_fs q → hs_fs (hs_i a b s j q)
  | 0, _, _, h => h
  | j + 1, s, _, h => hs_fs_i j (!s) _ (hs_fs_T h)
theorem hs_fs_d (k : Nat) : hs_fs (hs_d k) := ⟨k + 1, fun n hn => by show (if n = k then (1 : Int) else 0) = 0; rw [if_neg (by omega)]⟩
theorem hs_pm {p i k i2 k2 : Nat} (h : i * p + k = i2 * p + k2) (hk : k < p) (hk2 : k2 < p) : i = i2 ∧ k = k2 := by
  rcases Nat.lt_trichotomy i i2 with h1 | h1 | h1
  · have := Nat.mul_le_mul_right p (Nat.succ_le_of_lt h1)
    rw [Nat.succ_mul] at this; omega
  · subst h1; exact ⟨rfl, by omega⟩
  · have := Nat.mul_le_mul_right p (Nat.succ_le_of_lt h1)
    rw [Nat.succ_mul] at this; omega
section HSM
variable (a b : Int) (p h n K : Nat)
def hs_r (u : Nat) : Nat → Int := if u / n ≤ K then hs_K (u / n * p) (hs_d (u % n)) else hs_Fk a b h (hs_K ((u / n - K - 1) * p) (hs_d (u % n)))
def hs_w (j u : Nat) : Nat → Int := if u / n ≤ K then hs_K (u / n) (hs_i a b true j (hs_d (u % n))) else hs_Fk a b (if hs_o true j then 0 else 1) (hs_K (u / n - K - 1) (hs_i a b false j (hs_d (u % n))))
def hs_p (u : Nat) : Nat := if u / n ≤ K then u / n * p + u % n else (u / n - K - 1) * p + u % n + 3 * h
theorem hs_r_lead (u : Nat) : hs_r a b p h n K u (hs_p p h n K u) = 1 ∧ ∀ x, hs_p p h n K u < x → hs_r a b p h n K u x = 0 := by
  unfold hs_r hs_p
  by_cases c : u / n ≤ K
  · rw [if_pos c, if_pos c, hs_K_d]
    refine ⟨?_, fun x hx => ?_⟩
    · show (if u / n * p + u % n = u % n + u / n * p then (1 : Int) else 0) = 1
      rw [if_pos (by omega)]
    · show (if x = u % n + u / n * p then (1 : Int) else 0) = 0
      rw [if_neg (by omega)]
  · rw [if_neg c, if_neg c, hs_K_d]
    obtain ⟨h1, h2⟩ := hs_Fk_d a b (u % n + (u / n - K - 1) * p) h
    rw [show (u / n - K - 1) * p + u % n = u % n + (u / n - K - 1) * p by omega]
    exact ⟨h1, h2⟩
variable {a b : Int} {p h n K : Nat}
theorem hs_p_inj (hph : p = 2 * h + 1) (hn : n + 1 ≤ h) {u u' : Nat} (hn0 : 0 < n) (e : hs_p p h n K u = hs_p p h n K u') : u = u' := by
  have k1 := Nat.mod_lt u hn0
  have k2 := Nat.mod_lt u' hn0
  have d1 := Nat.div_add_mod u n
  have d2 := Nat.div_add_mod u' n
  unfold hs_p at e
  by_cases c : u / n ≤ K
  · by_cases c' : u' / n ≤ K
    · rw [if_pos c, if_pos c'] at e
      obtain ⟨e1, e2⟩ := hs_pm e (by omega) (by omega)
      rw [← d1, ← d2, e1, e2]
    · rw [if_pos c, if_neg c'] at e
      have e : u / n * p + u % n = (u' / n - K - 1 + 1) * p + (u' % n + (h - 1)) := by rw [Nat.succ_mul]; omega
      obtain ⟨e1, e2⟩ := hs_pm e (by omega) (by omega)
      omega
  · by_cases c' : u' / n ≤ K
    · rw [if_neg c, if_pos c'] at e
      have e : u' / n * p + u' % n = (u / n - K - 1 + 1) * p + (u % n + (h - 1)) := by rw [Nat.succ_mul]; omega
      obtain ⟨e1, e2⟩ := hs_pm e (by omega) (by omega)
      omega
    · rw [if_neg c, if_neg c'] at e
      have e : (u / n - K - 1) * p + u % n = (u' / n - K - 1) * p + u' % n := by omega
      obtain ⟨e1, e2⟩ := hs_pm e (by omega) (by omega)
      have e3 : u / n = u' / n := by omega
      rw [← d1, ← d2, e3, e2]
theorem hs_p_lt (hph : p = 2 * h + 1) (hn : n + 1 ≤ h) (hn0 : 0 < n) {u : Nat} (hu : u < (2 * K + 1) * n) : hs_p p h n K u < (K + 1) * p := by
  have k1 := Nat.mod_lt u hn0
  have q1 : u / n < 2 * K + 1 := Nat.div_lt_of_lt_mul (by rw [Nat.mul_comm]; exact hu)
  unfold hs_p
  by_cases c : u / n ≤ K
  · rw [if_pos c, Nat.succ_mul]
    have := Nat.mul_le_mul_right p c
    omega
  · rw [if_neg c]
    have h1 : (u / n - K - 1 + 2) * p ≤ (K + 1) * p := Nat.mul_le_mul_right p (by omega)
    have h2 : (u / n - K - 1 + 2) * p = (u / n - K - 1) * p + 2 * p := Nat.add_mul _ _ _
    omega
/-- it isn't 0 -/
theorem hs_nz {P : Int} (hph : p = 2 * h + 1) (hn : n + 1 ≤ h) (hn0 : 0 < n) {v : Nat → Int} (hv : ∃ u, u < (2 * K + 1) * n ∧ ¬ P ∣ v u) : ∃ x, ¬ P ∣ hs_L ((2 * K + 1) * n) v (hs_r a b p h n K) x := by
  refine Classical.byContradiction fun hc => ?_
  have hz : ∀ x, P ∣ hs_L ((2 * K + 1) * n) v (hs_r a b p h n K) x := fun x => Classical.byContradiction fun h => hc ⟨x, h⟩
  have key : ∀ t u : Nat, u < (2 * K + 1) * n → (K + 1) * p ≤ hs_p p h n K u + t → P ∣ v u := by
    intro t
    induction t with
    | zero => intro u hu ht; have := hs_p_lt hph hn hn0 hu; omega
    | succ t ih =>
      intro u hu ht
      by_cases c : (K + 1) * p ≤ hs_p p h n K u + t
      · exact ih u hu c
      · have h1 := hs_s_one (P := P) (f := fun x => v x * hs_r a b p h n K x (hs_p p h n K u)) hu (fun x hx hne => by
          show P ∣ v x * hs_r a b p h n K x (hs_p p h n K u)
          by_cases c1 : hs_p p h n K x < hs_p p h n K u
          · rw [(hs_r_lead a b p h n K x).2 _ c1, Int.mul_zero]; exact Int.dvd_zero P
          · have : hs_p p h n K x ≠ hs_p p h n K u := fun e => hne (hs_p_inj hph hn hn0 e)
            exact Int.dvd_mul_of_dvd_left (ih x hx (by omega)))
        have h2 : P ∣ hs_s ((2 * K + 1) * n) (fun x => v x * hs_r a b p h n K x (hs_p p h n K u)) := hz (hs_p p h n K u)
        have h3 := Int.dvd_sub h2 h1
        have h3 : P ∣ hs_s ((2 * K + 1) * n) (fun x => v x * hs_r a b p h n K x (hs_p p h n K u)) - (hs_s ((2 * K + 1) * n) (fun x => v x * hs_r a b p h n K x (hs_p p h n K u)) - v u * hs_r a b p h n K u (hs_p p h n K u)) := h3
        rw [(hs_r_lead a b p h n K u).1, Int.mul_one] at h3
        rwa [show hs_s ((2 * K + 1) * n) (fun x => v x * hs_r a b p h n K x (hs_p p h n K u)) - (hs_s ((2 * K + 1) * n) (fun x => v x * hs_r a b p h n K x (hs_p p h n K u)) - v u) = v u by omega] at h3
  obtain ⟨u, hu, hnz⟩ := hv
  exact hnz (key ((K + 1) * p) u hu (by omega))
theorem hs_r_val {r : Int} (hph : p = 2 * h + 1) (hF : (p : Int) ∣ r ^ p - r) (hf : (p : Int) ∣ (r ^ 3 + a * r + b) ^ h - 1) (j u : Nat) : ∃ w, hs_v (p : Int) (hs_i a b true j (hs_r a b p h n K u)) r w ∧ hs_v (p : Int) (hs_w a b n K j u) r w := by
  have hpow : ∀ i : Nat, (p : Int) ∣ r ^ (i * p) - r ^ i := fun i => by
    have := hs_powmod hF i
    rw [Nat.mul_comm, Int.pow_mul]; exact this
  have hdv : ∀ i : Nat, (p : Int) ∣ ((i * p : Nat) : Int) := fun i => by push_cast; exact Int.dvd_mul_left _ _
  unfold hs_r hs_w
  by_cases c : u / n ≤ K
  · rw [if_pos c, if_pos c]
    obtain ⟨v, hv⟩ := hs_v_ex (P := (p : Int)) r (hs_fs_i (a := a) (b := b) j true _ (hs_fs_d (u % n)))
    refine ⟨r ^ (u / n) * v, hs_v_eq ?_ (hs_v_cong (hs_iK _ (hdv _) j true _).sy (hs_v_K hv (u / n * p))), hs_v_K hv (u / n)⟩
    rw [← Int.sub_mul]; exact Int.dvd_mul_of_dvd_left (hpow _)
  · rw [if_neg c, if_neg c]
    obtain ⟨v, hv⟩ := hs_v_ex (P := (p : Int)) r (hs_fs_i (a := a) (b := b) j false _ (hs_fs_d (u % n)))
    refine ⟨(r ^ 3 + a * r + b) ^ (if hs_o true j then 0 else 1) * (r ^ (u / n - K - 1) * v), ?_, hs_v_Fk (hs_v_K hv _) _⟩
    have hP : (p : Int) ∣ 2 * (h : Int) + 1 := by rw [hph]; push_cast; exact Int.dvd_refl _
    have h1 := hs_iFk (a := a) (b := b) h hP j true (hs_K ((u / n - K - 1) * p) (hs_d (u % n)))
    have h1 : hs_q (p : Int) (hs_i a b true j (hs_Fk a b h (hs_K ((u / n - K - 1) * p) (hs_d (u % n))))) (hs_Fk a b (if hs_o true j then h else h + 1) (hs_i a b false j (hs_K ((u / n - K - 1) * p) (hs_d (u % n))))) := h1
    have h2 := hs_v_cong (hs_iK _ (hdv (u / n - K - 1)) j false _).sy (hs_v_K hv ((u / n - K - 1) * p))
    have h3 := hs_v_Fk (a := a) (b := b) h2 (if hs_o true j then h else h + 1)
    refine hs_v_eq ?_ (hs_v_cong h1.sy h3)
    have h4 : (p : Int) ∣ (r ^ 3 + a * r + b) ^ (if hs_o true j then h else h + 1) - (r ^ 3 + a * r + b) ^ (if hs_o true j then 0 else 1) := by
      cases hs_o true j with
      | true => show (p : Int) ∣ (r ^ 3 + a * r + b) ^ h - (r ^ 3 + a * r + b) ^ 0; rw [Int.pow_zero]; exact hf
      | false =>
        show (p : Int) ∣ (r ^ 3 + a * r + b) ^ (h + 1) - (r ^ 3 + a * r + b) ^ 1
        generalize r ^ 3 + a * r + b = y at hf ⊢
        rw [show y ^ (h + 1) - y ^ 1 = (y ^ h - 1) * y by rw [Int.pow_succ]; grind]; exact Int.dvd_mul_of_dvd_left hf
    have h5 := hpow (u / n - K - 1)
    generalize (r ^ 3 + a * r + b) ^ (if hs_o true j then h else h + 1) = x1 at h4
    generalize (r ^ 3 + a * r + b) ^ (if hs_o true j then 0 else 1) = x2 at h4 ⊢
    generalize r ^ ((u / n - K - 1) * p) = x3 at h5 ⊢
    generalize r ^ (u / n - K - 1) = x4 at h5 ⊢
    rw [show x1 * (x3 * v) - x2 * (x4 * v) = x3 * v * (x1 - x2) + x2 * v * (x3 - x4) by grind]
    exact Int.dvd_add (hs_mr _ h4) (hs_mr _ h5)
theorem hs_w_sup (hn0 : 0 < n) {j u : Nat} (hj : j < 2 * K) (hu : u < (2 * K + 1) * n) : ∀ x, n + 2 * K + 1 ≤ x → hs_w a b n K j u x = 0 := by
  have k1 := Nat.mod_lt u hn0
  have q1 : u / n < 2 * K + 1 := Nat.div_lt_of_lt_mul (by rw [Nat.mul_comm]; exact hu)
  have hd : ∀ x, u % n + 1 ≤ x → hs_d (u % n) x = 0 := fun x hx => by show (if x = u % n then (1 : Int) else 0) = 0; rw [if_neg (by omega)]
  obtain ⟨b1, b2⟩ := hs_b_le j (u % n + 1) (by omega)
  intro x hx
  unfold hs_w
  by_cases c : u / n ≤ K
  · rw [if_pos c]
    exact hs_sK (hs_si j true _ _ hd) (u / n) x (by omega)
  · rw [if_neg c]
    cases ho : hs_o true j with
    | true =>
      rw [ho] at b2
      have b2 : hs_b false j (u % n + 1) + 0 ≤ u % n + 1 + j / 2 + 2 := b2
      exact hs_sK (hs_si (a := a) (b := b) j false _ _ hd) (u / n - K - 1) x (by omega)
    | false =>
      rw [ho] at b2
      have b2 : hs_b false j (u % n + 1) + 3 ≤ u % n + 1 + j / 2 + 2 := b2
      exact hs_sF (a := a) (b := b) (hs_sK (hs_si (a := a) (b := b) j false _ _ hd) (u / n - K - 1)) x (by omega)
/-- THE BOUND: of the places where f is a square that isn't 0 there are less than (K + 1) p / (2 K) -/
theorem hs_bound (hE : ∀ x y : Int, (p : Int) ∣ x * y → (p : Int) ∣ x ∨ (p : Int) ∣ y) (hp : ∀ i : Nat, 0 < i → i < p → ¬ (p : Int) ∣ (i : Int)) (hph : p = 2 * h + 1) (hn : n + 1 ≤ h) (hK : 2 * K ≤ p) (hnK : 2 * K * (2 * K + 1) < n)
    (S : List Int) (hS : S.Pairwise (fun x y => ¬ (p : Int) ∣ y - x)) (hr : ∀ r, r ∈ S → (p : Int) ∣ r ^ p - r ∧ (p : Int) ∣ (r ^ 3 + a * r + b) ^ h - 1) : 2 * K * S.length < (K + 1) * p := by
  have hn0 : 0 < n := by omega
  have h1 : ¬ (p : Int) ∣ 1 := hp 1 (by omega) (by omega)
  have h2 : ¬ (p : Int) ∣ 2 := hp 2 (by omega) (by omega)
  have hEU : 2 * K * (n + 2 * K + 1) < (2 * K + 1) * n := by
    rw [show n + 2 * K + 1 = n + (2 * K + 1) by omega, Nat.mul_add, Nat.add_mul, Nat.one_mul]; omega
  obtain ⟨v, hv, hs⟩ := hs_solve hE h1 (2 * K * (n + 2 * K + 1)) ((2 * K + 1) * n) hEU (fun e u => hs_w a b n K (e / (n + 2 * K + 1)) u (e % (n + 2 * K + 1)))
  have hz : ∀ j, j < 2 * K → hs_q (p : Int) (hs_L ((2 * K + 1) * n) v (hs_w a b n K j)) (fun _ => 0) := fun j hj x => by
    rw [Int.sub_zero]
    by_cases c : x < n + 2 * K + 1
    · have h3 := hs (j * (n + 2 * K + 1) + x) (by
        have := Nat.mul_le_mul_right (n + 2 * K + 1) (Nat.succ_le_of_lt hj)
        rw [Nat.succ_mul] at this; omega)
      rw [show (j * (n + 2 * K + 1) + x) / (n + 2 * K + 1) = j by
        rw [Nat.add_comm, Nat.add_mul_div_right _ _ (by omega), Nat.div_eq_of_lt c, Nat.zero_add], show (j * (n + 2 * K + 1) + x) % (n + 2 * K + 1) = x by
        rw [Nat.add_comm, Nat.add_mul_mod_self_right, Nat.mod_eq_of_lt c]] at h3
      exact h3
    · exact hs_s_dvd (fun u hu => by rw [hs_w_sup hn0 hj hu x (by omega), Int.mul_zero]; exact Int.dvd_zero _)
  have hsup : ∀ x, (K + 1) * p ≤ x → hs_L ((2 * K + 1) * n) v (hs_r a b p h n K) x = 0 := fun x hx => by
    show hs_s ((2 * K + 1) * n) (fun u => v u * hs_r a b p h n K u x) = 0
    rw [hs_s_ext (g := fun _ => 0) (fun u hu => by
      show v u * hs_r a b p h n K u x = 0
      rw [(hs_r_lead a b p h n K u).2 x (by have := hs_p_lt hph hn hn0 hu; omega), Int.mul_zero]), hs_s_zero]
  refine hs_count hE hp (2 * K) hK S ((K + 1) * p) (hs_L ((2 * K + 1) * n) v (hs_r a b p h n K)) hsup (hs_nz hph hn hn0 hv) (fun r hrS => ?_) hS
  obtain ⟨r1, r2⟩ := hr r hrS
  have hf : ¬ (p : Int) ∣ r ^ 3 + a * r + b := fun hd => h1 (by
    have hh : 0 < h := by omega
    obtain ⟨h', rfl⟩ : ∃ h', h = h' + 1 := ⟨h - 1, by omega⟩
    have h3 : (p : Int) ∣ (r ^ 3 + a * r + b) ^ (h' + 1) := by rw [Int.pow_succ]; exact hs_mr _ hd
    have := Int.dvd_sub h3 r2
    rwa [show (r ^ 3 + a * r + b) ^ (h' + 1) - ((r ^ 3 + a * r + b) ^ (h' + 1) - 1) = 1 by omega] at this)
  refine hs_local hE h2 hf (2 * K) true _ ⟨_, hsup⟩ (fun j hj => ?_)
  have hw : ∀ u, ∃ w, hs_v (p : Int) (hs_i a b true j (hs_r a b p h n K u)) r w ∧ hs_v (p : Int) (hs_w a b n K j u) r w := hs_r_val hph r1 r2 j
  have hw1 := fun u => Classical.choose_spec (hw u)
  have h3 := hs_v_L (v := v) (U := (2 * K + 1) * n) (fun u _ => (hw1 u).1)
  have h4 := hs_v_L (v := v) (U := (2 * K + 1) * n) (fun u _ => (hw1 u).2)
  have h5 : hs_v (p : Int) (fun _ => 0) r 0 := ⟨0, fun d _ => by
    show (p : Int) ∣ hs_s d (fun i => 0 * r ^ i) - 0
    rw [hs_s_ext (g := fun _ => 0) (fun i _ => Int.zero_mul _), hs_s_zero]; exact Int.dvd_zero _⟩
  have h6 := hs_v_un (hs_v_cong (hz j hj) h4) h5
  rw [hs_L_i]
  exact hs_v_eq (by rw [Int.sub_zero] at h6 ⊢; exact h6) h3
end HSM
