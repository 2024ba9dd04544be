theorem seen_spec (N : Nat) (hN : 20000 ≤ N) (P : Nat) (hP : P ≤ 61) (g0 : Nat → Int32) : ∃ o, mi_run (mX6_all_b32 N (nI P)) N (0, g0) = some o ∧ ∀ v, v < P → o.2 v = 0 := by
  refine mi_run_ok (mX6_all_b32 N (nI P)) (fun s => ∃ k, s.1 = nI k ∧ k ≤ P ∧ ∀ v, v < k → s.2 v = 0) (fun o => ∀ v, v < P → o.2 v = 0) (fun s => 15000 - s.1.toNatClampNeg) ?_ N (0, g0) ⟨0, rfl, by omega, fun v hv => by omega⟩ ?_
  · intro ⟨x, f⟩ ⟨k, ex, hkP, hf⟩
    dsimp only at ex hf
    subst ex
    have hk31 : k < 2 ^ 31 := by omega
    dsimp only [mX6_all_b32, mi_let]
    rcases Nat.lt_or_ge k P with hlt | hge
    · left
      refine ⟨(nI (k + 1), upd f k 0), ?_, ⟨k + 1, rfl, by omega, ?_⟩, ?_⟩
      · rw [if_neg (nI_ge hlt (by omega)), if_neg (ix_nI (by omega) (by omega)), nI_clamp hk31, nI_1]
        rfl
      · intro v hv
        show upd f k 0 v = 0
        rcases Nat.lt_or_ge v k with q | q
        · rw [pk_un (by omega)]
          exact hf v q
        · have e : v = k := by omega
          subst e
          rw [pk_us]
      · show 15000 - (nI (k + 1)).toNatClampNeg < 15000 - (nI k).toNatClampNeg
        rw [nI_clamp (by omega), nI_clamp hk31]
        omega
    · right
      have e : k = P := by omega
      subst e
      rw [if_pos (nI_le (Nat.le_refl _) hk31)]
      exact ⟨_, rfl, hf⟩
  · show 15000 - (nI 0).toNatClampNeg < N
    rw [nI_clamp (by omega)]
    omega
theorem outer_spec (N : Nat) (hN : 20000 ≤ N) (P : Nat) (h5 : 5 ≤ P) (hP : P ≤ 61) (n : Int32) (J : Bool) (a2 : Int32) (hJ : a2 = if J = true then 1 else 0) (S0 : Nat → Int32) (p0 a0 b0 pm0 : Int32) (f0 g0 : Nat → Int32) (hf : invTab P f0 P) (hg : rootTab P g0) :
    ∃ o, mi_run (mX6_all_b58 N (nI P) n a2) N (0, 0, p0, a0, b0, nI P, pm0, f0, g0, S0) = some o ∧ o.1 = nI (allF P n J (0, S0) P).1 := by
  refine mi_run_ok (mX6_all_b58 N (nI P) n a2) (fun s => ∃ k, s.2.1 = nI k ∧ k ≤ P ∧ s.1 = nI (allF P n J (0, S0) k).1 ∧ s.2.2.2.2.2.2.2.2.2 = (allF P n J (0, S0) k).2 ∧ s.2.2.2.2.2.1 = nI P ∧ invTab P s.2.2.2.2.2.2.2.1 P ∧ rootTab P s.2.2.2.2.2.2.2.2.1) (fun o => o.1 = nI (allF P n J (0, S0) P).1) (fun s => 15000 - s.2.1.toNatClampNeg) ?_ N (0, 0, p0, a0, b0, nI P, pm0, f0, g0, S0) ⟨0, rfl, by omega, rfl, rfl, rfl, hf, hg⟩ ?_
  · intro ⟨x41, x42, x43, x44, x45, x46, x47, x48, x49, x50⟩ ⟨k, e2, hk, e1, e10, e6, hf', hg'⟩
    dsimp only at e2 e1 e10 e6 hf' hg'
    subst e2
    subst e1
    subst e10
    subst e6
    dsimp only [mX6_all_b58, mi_let]
    rcases Nat.lt_or_ge k P with hlt | hge
    · left
      obtain ⟨o, eo, q1, q2, q3, q4, q5⟩ := row_spec N hN P h5 hP n J a2 hJ k hlt (allF P n J (0, S0) k) x43 x44 x45 x47 x48 x49 hf' hg'
      obtain ⟨o1, o2, o3, o4, o5, o6, o7, o8, o9, o10⟩ := o
      dsimp only at q1 q2 q3 q4 q5
      subst q1
      subst q2
      subst q3
      refine ⟨(nI (allF P n J (0, S0) (k + 1)).1, nI (k + 1), o3, o4, o5, nI P, o7, o8, o9, (allF P n J (0, S0) (k + 1)).2), ?_, ⟨k + 1, rfl, by omega, rfl, rfl, rfl, q4, q5⟩, ?_⟩
      · rw [if_neg (nI_ge hlt (by omega)), eo, ← nI_1]
        rfl
      · show 15000 - (nI (k + 1)).toNatClampNeg < 15000 - (nI k).toNatClampNeg
        rw [nI_clamp (by omega), nI_clamp (by omega)]
        omega
    · right
      have e : k = P := by omega
      subst e
      rw [if_pos (nI_le (Nat.le_refl _) (by omega))]
      exact ⟨_, rfl, rfl⟩
  · show 15000 - (nI 0).toNatClampNeg < N
    rw [nI_clamp (by omega)]
    omega
theorem allM_in (N : Nat) (hN : 20000 ≤ N) (P : Nat) (h5 : 5 ≤ P) (hP : P ≤ 61) (hp : isp P) (n : Int32) (J : Bool) (a2 : Int32) (hJ : a2 = if J = true then 1 else 0) (tp ta tb rt pm : Int32) (f g S : Nat → Int32) (ht : tabM rt f g) :
    ∃ S0 x, (∀ v, v < P → S0 v = 0) ∧ mX6_all N tp ta tb rt pm f g S (nI P) n a2 = some (nI (allF P n J (0, S0) P).1, x) := by
  obtain ⟨pm', f', g', e1, hf, hg⟩ := takeP_spec N hN P h5 (by omega) rt pm f g ht
  obtain ⟨⟨o1, o2⟩, e2, q2⟩ := seen_spec N hN P hP S
  obtain ⟨o, e3, q3⟩ := outer_spec N hN P h5 hP n J a2 hJ o2 (nI P) ta tb pm' f' g' hf hg
  obtain ⟨y1, y2, y3, y4, y5, y6, y7, y8, y9, y10⟩ := o
  dsimp only at q3
  subst q3
  refine ⟨o2, (y3, y4, y5, y6, y7, y8, y9, y10), q2, ?_⟩
  unfold mX6_all
  rw [in_spec, if_pos]
  · rcases ispM_spec N hN P (by omega) (by omega) with ⟨-, e⟩ | ⟨h, -⟩
    · dsimp only [Option.bind]
      rw [if_neg (by decide), e]
      dsimp only
      rw [if_neg (by decide), e1]
      dsimp only
      rw [e2]
      dsimp only
      rw [e3]
    · exact absurd hp h
  · rw [Int64.le_iff_toInt_le, Int64.le_iff_toInt_le, Int32.toInt_toInt64, nI_toInt (by omega)]
    have e5 : (5 : Int64).toInt = 5 := by decide
    have eM : (61 : Int64).toInt = 61 := by decide
    rw [e5, eM]
    omega
theorem allM_out (N : Nat) (hN : 20000 ≤ N) (p n a2 : Int32) (h : ¬ ∃ P, isF p P ∧ P ≤ 61) (tp ta tb rt pm : Int32) (f g S : Nat → Int32) : mX6_all N tp ta tb rt pm f g S p n a2 = some (-2, tp, ta, tb, rt, pm, f, g, S) := by
  unfold mX6_all
  rw [in_spec]
  by_cases hi : (5 : Int64) ≤ p.toInt64 ∧ p.toInt64 ≤ 61
  · rw [if_pos hi]
    rw [Int64.le_iff_toInt_le, Int64.le_iff_toInt_le, Int32.toInt_toInt64] at hi
    have e5 : (5 : Int64).toInt = 5 := by decide
    have eM : (61 : Int64).toInt = 61 := by decide
    rw [e5, eM] at hi
    obtain ⟨P, e, h5, hP, h31⟩ := i32_of (a := 5) (b := 61) hi.1 hi.2
    subst e
    rcases ispM_spec N hN P (by omega) (by omega) with ⟨h3, e⟩ | ⟨h3, e⟩
    · exact absurd ⟨P, ⟨rfl, h5, by omega, h3⟩, hP⟩ h
    · dsimp only [Option.bind]
      rw [if_neg (by decide), e]
      dsimp only
      rw [if_pos rfl]
  · rw [if_neg hi]
    rfl
theorem censusC_cases (N : Nat) (hN : 20000 ≤ N) (p n pr : Int32) (g : Nat → Int32) (ht : tabC pr g) :
    (∃ P, isF p P ∧ P ≤ 61 ∧ (∃ pr' g', mX5_census N pr g p n = some (nI (censC P n), pr', g')) ∧ (∃ pr' g', mX5_kinds N pr g p n = some (nI (kindC P n), pr', g'))) ∨ ((¬ ∃ P, isF p P ∧ P ≤ 61) ∧ mX5_census N pr g p n = some (-2, pr, g) ∧ mX5_kinds N pr g p n = some (-2, pr, g)) := by
  unfold mX5_census mX5_kinds
  by_cases h61 : 61 < p
  · right
    refine ⟨?_, by rw [if_pos h61], by rw [if_pos h61]⟩
    intro ⟨P, ⟨e, h1, h2, h3⟩, h4⟩
    rw [e] at h61
    exact nI_nlt (a := 61) (b := P) h4 (by omega) h61
  · rw [if_neg h61, if_neg h61]
    rcases fpC_spec N hN p with ⟨P, hF, e⟩ | ⟨hn, e⟩
    · left
      obtain ⟨e0, h5, hP, hp⟩ := hF
      subst e0
      have h4 : P ≤ 61 := by
        rcases Nat.lt_or_ge 61 P with k | k
        · exact absurd (nI_lt k (by omega)) h61
        · exact k
      rw [e]
      dsimp only [Option.bind]
      rw [if_neg (by decide), if_neg (by decide)]
      obtain ⟨p1, g1, e1, -⟩ := pairs_spec N hN P h5 hP n pr g ht
      obtain ⟨p2, g2, e2, -⟩ := kinds_spec N hN P h5 hP n pr g ht
      rw [e1, e2]
      exact ⟨P, ⟨rfl, h5, hP, hp⟩, h4, ⟨p1, g1, rfl⟩, ⟨p2, g2, rfl⟩⟩
    · right
      rw [e]
      exact ⟨fun ⟨P, hF, _⟩ => hn ⟨P, hF⟩, rfl, rfl⟩
