def mi_let {α β : Type} (x : α) (k : α → β) : β := k x
theorem mi_use {α β : Type} {e y : α} {k : α → Option β} {o : β} (ey : y = e) (h : mi_let e k = some o) : k y = some o := by
  subst ey
  exact h
def mi_rem (x y : Int32) : Int32 := x - x / y * y
def mi_lrem (x y : Int64) : Int64 := x - x / y * y
def mi_run {σ ρ : Type} (f : σ → Option (σ ⊕ ρ)) : Nat → σ → Option ρ
  | 0, _ => none
  | n + 1, s => (f s).bind (fun w => match w with | .inl t => mi_run f n t | .inr r => some r)
theorem mi_run_0 {σ ρ : Type} (f : σ → Option (σ ⊕ ρ)) (s : σ) (o : ρ) : ¬ mi_run f 0 s = some o := by
  intro h
  simp [mi_run] at h
theorem mi_run_s {σ ρ : Type} {f : σ → Option (σ ⊕ ρ)} {n : Nat} {s : σ} {o : ρ} (h : mi_run f (n + 1) s = some o) : ∃ w, f s = some w ∧ (∀ t, w = .inl t → mi_run f n t = some o) ∧ (∀ r, w = .inr r → o = r) := by
  obtain ⟨w, h1, h2⟩ := Option.bind_eq_some_iff.mp h
  refine ⟨w, h1, ?_, ?_⟩
  · intro t e
    subst e
    exact h2
  · intro r e
    subst e
    exact (Option.some.inj h2).symm
/-- a loop that keeps I and whose measure falls comes to an end with Q -/
theorem mi_run_ok {σ ρ : Type} (f : σ → Option (σ ⊕ ρ)) (I : σ → Prop) (Q : ρ → Prop) (μ : σ → Nat)
    (hs : ∀ s, I s → (∃ t, f s = some (.inl t) ∧ I t ∧ μ t < μ s) ∨ (∃ r, f s = some (.inr r) ∧ Q r)) :
    ∀ n s, I s → μ s < n → ∃ r, mi_run f n s = some r ∧ Q r := by
  intro n
  induction n with
  | zero => intro s _ h; exact absurd h (Nat.not_lt_zero _)
  | succ n ih =>
    intro s hI hm
    rcases hs s hI with ⟨t, e, hT, hlt⟩ | ⟨r, e, hQ⟩
    · obtain ⟨r, e2, hQ⟩ := ih t hT (by omega)
      exact ⟨r, by simp [mi_run, e, e2], hQ⟩
    · exact ⟨r, by simp [mi_run, e], hQ⟩
def mi_nots (x : Int32) : Nat → Nat → Prop
  | 0, _ => True
  | n + 1, k => ¬ x = Int32.ofNat k ∧ mi_nots x n (k + 1)
theorem mi_nots_at {x : Int32} : ∀ (n k : Nat), mi_nots x n k → ∀ j, j < n → ¬ x = Int32.ofNat (k + j) := by
  intro n
  induction n with
  | zero => intro k _ j hj; exact absurd hj (Nat.not_lt_zero _)
  | succ n ih =>
    intro k h j hj
    cases j with
    | zero => exact h.1
    | succ j =>
      have := ih (k + 1) h.2 j (by omega)
      rw [show k + (j + 1) = k + 1 + j by omega]
      exact this
theorem mi_tab (x : Int32) (hi : Int) (n : Nat) (e : (n : Int) = hi + 1) (hn : n < 2 ^ 31) (h : mi_nots x n 0) : x.toInt < 0 ∨ hi < x.toInt := by
  by_cases h0 : x < 0
  · exact Or.inl (Int32.lt_iff_toInt_lt.mp h0)
  · obtain ⟨j, hj, ex⟩ := nI_of h0
    right
    have h1 := mi_nots_at n 0 h j
    rw [ex, nI_toInt hj]
    rcases Nat.lt_or_ge j n with q | q
    · exact absurd (by rw [ex, Nat.zero_add]; rfl) (h1 q)
    · omega
theorem mi_az (n : Nat) (cA : ClassId) : vp_cell cA (n, .inl (fun _ => 0)) = arrV cA n (fun _ => defaultValue .int) := rfl
