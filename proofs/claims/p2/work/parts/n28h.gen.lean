/-! the generator -/
theorem pw_mod {P g k : Nat} : og P g k ↔ g ^ k % P = 1 % P := by
  unfold og
  rw [← Int.natCast_pow]
  constructor
  · intro h
    have h2 : ((g ^ k : Nat) : Int) % P = 1 % P := Int.emod_eq_emod_iff_emod_sub_eq_zero.mpr (Int.emod_eq_zero_of_dvd h)
    have h3 : ((g ^ k % P : Nat) : Int) = ((1 % P : Nat) : Int) := by rw [Int.natCast_emod, Int.natCast_emod]; exact h2
    exact Int.ofNat.inj h3
  · intro h
    refine Int.dvd_of_emod_eq_zero (Int.emod_eq_emod_iff_emod_sub_eq_zero.mp ?_)
    have h3 : ((g ^ k % P : Nat) : Int) = ((1 % P : Nat) : Int) := by rw [h]
    rw [Int.natCast_emod, Int.natCast_emod] at h3; exact h3
theorem gen33 {N : Nat} (hN : 2 ^ 64 ≤ N) {P : Nat} (hp : isp P) (h5 : 5 ≤ P) (hP : P ≤ 10007) {g : Nat} (hg1 : 0 < g) (hgP : g < P) : ∃ k, 1 ≤ k ∧ k ≤ P - 1 ∧ og P g k ∧ (∀ j, 1 ≤ j → j < k → ¬ og P g j) ∧ mi_run (mX6_generator_b33 N (nI P) (nI g)) N (1, nI g) = some (nI k, 1) := by
  have hf := pr_fermat1 hp (by omega) g (pr_small (p := P) g hg1 hgP)
  obtain ⟨k, ⟨hk1, hk⟩, hmin⟩ := least_ex (p := fun k => 1 ≤ k ∧ og P g k) (P - 1) ⟨by omega, hf⟩
  have hkP : k ≤ P - 1 := Nat.le_of_not_lt fun h => hmin (P - 1) h ⟨by omega, hf⟩
  refine ⟨k, hk1, hkP, hk, fun j j1 jk hj => hmin j jk ⟨j1, hj⟩, ?_⟩
  have h1 : 1 ≤ P := by omega
  obtain ⟨o, ho, q⟩ := mi_run_ok (mX6_generator_b33 N (nI P) (nI g)) (fun s => ∃ j, 1 ≤ j ∧ j ≤ k ∧ s = (nI j, nI (g ^ j % P))) (fun o => o = (nI k, 1)) (fun s => k - s.1.toNatClampNeg) (by
    rintro _ ⟨j, j1, jk, rfl⟩
    have hm : g ^ j % P < P := Nat.mod_lt _ h1
    dsimp only [mX6_generator_b33, mi_let]
    by_cases c : nI (g ^ j % P) = 1
    · right
      rw [if_pos c]
      have c1 : g ^ j % P = 1 := (nI_eq (a := g ^ j % P) (b := 1) (by omega) (by omega)).mp c
      have hj : og P g j := pw_mod.mpr (by rw [c1, Nat.mod_eq_of_lt (by omega)])
      have : j = k := by
        rcases Nat.lt_or_ge j k with q | q
        · exact absurd ⟨j1, hj⟩ (hmin j q)
        · omega
      subst this
      exact ⟨_, rfl, by rw [c]⟩
    · left
      rw [if_neg c]
      have hne : j ≠ k := fun e => c (by
        subst e
        have := pw_mod.mp hk
        rw [Nat.mod_eq_of_lt (show 1 < P by omega)] at this
        rw [this]; rfl)
      have hml := mul_lt hm hgP hP
      rw [mulM N P (g ^ j % P) g h1 hP (by omega) (by omega) (by omega)]; simp only [Option.bind_some]
      refine ⟨_, rfl, ⟨j + 1, by omega, by omega, ?_⟩, ?_⟩
      · rw [nI_1, Nat.pow_succ, Nat.mod_mul_mod]
      · show k - (nI j + 1).toNatClampNeg < k - (nI j).toNatClampNeg
        rw [nI_1, nI_clamp (by omega), nI_clamp (by omega)]; omega) N (1, nI g) ⟨1, by omega, hk1, by rw [Nat.pow_one, Nat.mod_eq_of_lt hgP]; rfl⟩ (by show k - _ < N; omega)
  rw [ho, q]
theorem gen15 {N : Nat} (hN : 2 ^ 64 ≤ N) {P : Nat} (hp : isp P) (h5 : 5 ≤ P) (hP : P ≤ 10007) : ∃ o, mi_run (mX6_generator_b15 N (nI P)) N (1, 0) = some o := by
  obtain ⟨g0, hg1, hgP, hO⟩ := gen_ex hp (by omega)
  obtain ⟨o, ho, -⟩ := mi_run_ok (mX6_generator_b15 N (nI P)) (fun s => ∃ j, 1 ≤ j ∧ s.1 = nI j ∧ (j < g0 ∨ j = g0 ∧ s.2 = nI (P - 1))) (fun _ => True) (fun s => g0 - s.1.toNatClampNeg) (by
    rintro ⟨x, y⟩ ⟨j, j1, e, h⟩
    have e : x = nI j := e
    subst e
    have hP1 : nI P - 1 = nI (P - 1) := by obtain ⟨m, rfl⟩ : ∃ m, P = m + 1 := ⟨P - 1, by omega⟩; exact nI_pred m
    dsimp only [mX6_generator_b15, mi_let]
    by_cases c : y = nI P - 1
    · right; rw [if_pos c]; exact ⟨_, rfl, trivial⟩
    · left
      rw [if_neg c]
      have hj : j < g0 := by
        rcases h with q | ⟨-, q⟩
        · exact q
        · exact absurd (by rw [hP1]; exact q) c
      obtain ⟨k, k1, k2, k3, k4, ek⟩ := gen33 hN hp h5 hP (g := j + 1) (by omega) (by omega)
      rw [nI_1, ek]; simp only [Option.bind_some]
      refine ⟨_, rfl, ⟨j + 1, by omega, rfl, ?_⟩, ?_⟩
      · by_cases q : j + 1 = g0
        · right
          refine ⟨q, ?_⟩
          show nI k = nI (P - 1)
          have := Nat.le_of_dvd (by omega) (hO.2.2 k (q ▸ k3))
          rw [show k = P - 1 by omega]
        · left; omega
      · show g0 - (nI (j + 1)).toNatClampNeg < g0 - (nI j).toNatClampNeg
        rw [nI_clamp (by omega), nI_clamp (by omega)]; omega) N (1, 0) ⟨1, by omega, rfl, Or.inl hg1⟩ (by show g0 - _ < N; omega)
  exact ⟨o, ho⟩
theorem T_generator {N : Nat} (hN : 2 ^ 64 ≤ N) {cu : Int32} {ps as bs : Nat → Int32} (hS : ST cu ps as bs) {p a b rt pm : Int32} {f g pts ah : Nat → Int32} (hC : CUR p a b rt pm f g pts ah) (c : Int32) : ∃ r p1 a1 b1 rt1 pm1 f1 g1, mX6_generator N p a b rt pm cu f g ps as bs c = some (r, p1, a1, b1, rt1, pm1, f1, g1) ∧ CUR p1 a1 b1 rt1 pm1 f1 g1 pts ah := by
  unfold mX6_generator
  rcases has_spec N (by omega) hS hC c with e | ⟨P, A, B, pm', f', g', e, hCU, hix⟩
  · rw [e]; simp only [Option.bind_some]; rw [if_pos trivial]; exact ⟨_, _, _, _, _, _, _, _, rfl, hC⟩
  · have h1 := hCU.pos.1
    have hP := hCU.pos.2.1
    have fin : ∀ r0 : Int32, ∃ r p1 a1 b1 rt1 pm1 f1 g1, some (r0, nI P, nI A, nI B, nI P, pm', f', g') = some (r, p1, a1, b1, rt1, pm1, f1, g1) ∧ CUR p1 a1 b1 rt1 pm1 f1 g1 pts ah := fun r0 => ⟨_, _, _, _, _, _, _, _, rfl, Or.inr ⟨P, A, B, hCU⟩⟩
    rw [e]; simp only [Option.bind_some]; rw [if_neg (by decide)]
    obtain ⟨o, eo⟩ := gen15 hN hCU.pos.2.2.2.1 hCU.pos.2.2.1 hP
    rw [eo]; simp only [Option.bind_some]
    exact fin _
