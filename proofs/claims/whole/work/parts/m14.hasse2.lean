theorem seq_sq {s : Nat → Nat} (k : ∀ n, s (n + 2) + s n = 2 * s (n + 1) + 2) (n : Nat) : (s n : Int) = n * n + n * ((s 1 : Int) - s 0 - 1) + s 0 := by
  have key : ∀ n : Nat, (s n : Int) = n * n + n * ((s 1 : Int) - s 0 - 1) + s 0 ∧ (s (n + 1) : Int) = (n + 1) * (n + 1) + (n + 1) * ((s 1 : Int) - s 0 - 1) + s 0 := by
    intro n
    induction n with
    | zero => exact ⟨by simp, by grind⟩
    | succ n ih =>
      refine ⟨by rw [ih.2]; grind, ?_⟩
      have e := k n
      have e2 : (s (n + 2) : Int) = 2 * s (n + 1) + 2 - s n := by omega
      show (s (n + 2) : Int) = _
      rw [e2, ih.1, ih.2]; grind
  exact (key n).1
theorem int_tau {p e : Nat} (he : p = 2 * e + 1) {t : Int} (h1 : ∀ n : Nat, 0 ≤ (n : Int) * n + n * t + p) (h2 : ∀ n : Nat, 0 ≤ (n : Int) * n - n * t + p) : t * t ≤ 4 * p := by
  -- by the sign, a number m near |t| / 2
  have key : ∀ t : Int, 0 ≤ t → (∀ n : Nat, 0 ≤ (n : Int) * n - n * t + p) → t * t ≤ 4 * p := by
    intro t ht h
    have hm := h (t / 2).toNat
    have c : ((t / 2).toNat : Int) = t / 2 := Int.toNat_of_nonneg (by omega)
    rw [c] at hm
    rcases (show t % 2 = 0 ∨ t % 2 = 1 by omega) with z | z
    · have e1 : t = 2 * (t / 2) := by omega
      generalize t / 2 = m at *
      subst e1; grind
    · have e1 : t = 2 * (t / 2) + 1 := by omega
      generalize t / 2 = m at *
      subst e1
      -- m (m + 1) <= p, and p is odd: it isn't p
      have h3 : m * m + m ≤ p := by grind
      have h4 : (m * m + m) % 2 = 0 := by
        rcases (show m % 2 = 0 ∨ m % 2 = 1 by omega) with y | y
        · have : m = 2 * (m / 2) := by omega
          generalize m / 2 = q at *
          subst this
          rw [show 2 * q * (2 * q) + 2 * q = 2 * (2 * q * q + q) by grind]; omega
        · have : m = 2 * (m / 2) + 1 := by omega
          generalize m / 2 = q at *
          subst this
          rw [show (2 * q + 1) * (2 * q + 1) + (2 * q + 1) = 2 * (2 * q * q + 3 * q + 1) by grind]; omega
      have h5 : m * m + m ≤ (p : Int) - 1 := by omega
      grind
  by_cases s : 0 ≤ t
  · exact key t s h2
  · have := key (-t) (by omega) (fun n => by have := h1 n; grind)
    grind
theorem hasse {F : Type} [mFld F] {p e : Nat} {els : List F} (k : isFp F p els) (he : p = 2 * e + 1) (e2 : 2 ≤ e) {a b : F} (h2 : (2 : F) ≠ 0) (hns : 4 * a * a * a + 27 * b * b ≠ 0) :
    ((p : Int) + 1 - npts a b e els) * ((p : Int) + 1 - npts a b e els) ≤ 4 * p := by
  obtain ⟨R, iR, co, h⟩ := pol_ex F
  obtain ⟨A, B, cp, g, sA, -, -⟩ := hs_data h k he e2 h2 hns
  have g' : gGood h a b (pX h ^ p, 1) (A, B) := ⟨g.2.1, g.1, g.2.2.2.1, g.2.2.1, gRel_sym g.2.2.2.2⟩
  have Xp := (X_pow h p).1
  have u := seq_sq (s := fun n => sz h (chn h a b (A, B) (pX h ^ p, 1) n).1) (fun n => chn_sz h h2 hns g n)
  have d := seq_sq (s := fun n => sz h (chn h a b (pX h ^ p, 1) (A, B) n).1) (fun n => chn_sz h h2 hns g' n)
  have u0 : sz h (chn h a b (A, B) (pX h ^ p, 1) 0).1 = npts a b e els + 1 := sA
  have u1 : sz h (chn h a b (A, B) (pX h ^ p, 1) 1).1 = p + 1 := Xp
  have d0 : sz h (chn h a b (pX h ^ p, 1) (A, B) 0).1 = p + 1 := Xp
  have d1 : sz h (chn h a b (pX h ^ p, 1) (A, B) 1).1 = npts a b e els + 1 := sA
  simp only [u0, u1] at u
  simp only [d0, d1] at d
  have pu : ∀ n, 1 ≤ sz h (chn h a b (A, B) (pX h ^ p, 1) n).1 := fun n => by have := (chn_good h h2 hns g n).1.2.2.1; omega
  have pd : ∀ n, 1 ≤ sz h (chn h a b (pX h ^ p, 1) (A, B) n).1 := fun n => by have := (chn_good h h2 hns g' n).1.2.2.1; omega
  refine int_tau he (fun n => ?_) (fun n => ?_)
  · have e1 := u (n + 1)
    have e3 := pu (n + 1)
    generalize sz h (chn h a b (A, B) (pX h ^ p, 1) (n + 1)).1 = s at *
    generalize npts a b e els = N at *
    have : (s : Int) = (n * n + n * (p + 1 - N) + p) + 1 := by rw [e1]; grind
    omega
  · have e1 := d n
    have e3 := pd n
    generalize sz h (chn h a b (pX h ^ p, 1) (A, B) n).1 = s at *
    generalize npts a b e els = N at *
    have : (s : Int) = (n * n - n * (p + 1 - N) + p) + 1 := by rw [e1]; grind
    omega
