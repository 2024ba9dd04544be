theorem gnr_iff {P x : Nat} (hp : isp P) (h5 : 5 ≤ P) (x0 : 0 < x) (hx : x < P) : gnr P x ↔ ∀ j, 1 ≤ j → j < P - 1 → ¬ og P x j := by
  constructor
  · intro g j j1 jP oj
    have hf := pr_fermat1 hp (by omega) x (pr_small (p := P) x x0 hx)
    obtain ⟨k, hk⟩ := isO_ex hp (by omega) (pr_small (p := P) x x0 hx)
    obtain ⟨c, hc⟩ := hk.2.2 _ hf
    have kj := Nat.le_of_dvd (by omega) (hk.2.2 j oj)
    have c2 : 2 ≤ c := Nat.le_of_not_lt fun z => by
      have : k * c ≤ k * 1 := Nat.mul_le_mul_left k (by omega)
      omega
    obtain ⟨q, q2, ⟨c', rfl⟩, iq⟩ := pf_ex c2
    refine g q (prm_isp iq q2) ⟨k * c', by rw [hc, Nat.mul_left_comm]⟩ ((og_iff (by omega)).mp ?_)
    rw [show (P - 1) / q = k * c' from Nat.div_eq_of_eq_mul_right (by omega) (by rw [hc, Nat.mul_left_comm])]
    exact og_mul hk.2.1 c'
  · intro h q pq qd e
    obtain ⟨c, hc⟩ := qd
    have q2 := pq.1
    have c0 : 0 < c := Nat.pos_of_ne_zero fun z => by rw [z, Nat.mul_zero] at hc; omega
    have dv : (P - 1) / q = c := Nat.div_eq_of_eq_mul_right (by omega) hc
    rw [dv] at e
    have : 2 * c ≤ q * c := Nat.mul_le_mul_right c q2
    exact h c c0 (by omega) ((og_iff (by omega)).mpr e)
theorem gen2 {N : Nat} (hN : 2 ^ 64 ≤ N) {P : Nat} (hp : isp P) (h5 : 5 ≤ P) (hP : P ≤ 10007) : ∃ g y, mX4_leastGenerator N (nI P) = some (nI g) ∧ mi_run (mX6_generator_b15 N (nI P)) N (1, 0) = some (nI g, y) := by
  obtain ⟨g0, hg1, hgP, hO⟩ := gen_ex hp (by omega)
  obtain ⟨g, ⟨g1, gP, gg⟩, gmin⟩ := least_ex (p := fun x => 1 < x ∧ x < P ∧ gnr P x) g0 ⟨hg1, hgP, (gnr_iff hp h5 (by omega) hgP).mpr (fun j j1 jP oj => by
    have := Nat.le_of_dvd (by omega) (hO.2.2 j oj)
    omega)⟩
  have s1 : nI P - 1 = nI (P - 1) := by rw [nI_zI, nI_zI, show (1 : Int32) = zI 1 from rfl, zI_sub]; congr 1; omega
  obtain ⟨o, ho, w⟩ := mi_run_ok (mX4_leastGenerator_b2 N (nI P)) (fun s => ∃ k, s = nI k ∧ 2 ≤ k ∧ k ≤ g) (fun o => match o with | .inl y => y = nI g | .inr y => y = nI g) (fun s => 15000 - s.toNatClampNeg) (by
    rintro _ ⟨k, rfl, k2, kg⟩
    dsimp only [mX4_leastGenerator_b2, mi_let]
    rw [s1]
    by_cases c : P - 1 ≤ k
    · right
      rw [if_pos (nI_le c (by omega))]
      exact ⟨_, rfl, by show nI k = nI g; congr 1; omega⟩
    · rw [if_neg (nI_ge (by omega) (by omega))]
      rcases gntC hN h5 hP (show k < P by omega) with ⟨z, e⟩ | ⟨z, e⟩
      · right
        rw [e]; simp only [Option.bind_some]; rw [if_neg (by decide)]
        refine ⟨_, rfl, ?_⟩
        have : k = g := Classical.byContradiction fun ne => gmin k (by omega) ⟨by omega, by omega, z⟩
        show nI k = nI g
        rw [this]
      · left
        rw [e]; simp only [Option.bind_some]; rw [if_pos trivial]
        have : k ≠ g := fun w => z (w ▸ gg)
        refine ⟨_, rfl, ⟨k + 1, nI_1 k, by omega, by omega⟩, ?_⟩
        rw [nI_1, nI_clamp (by omega), nI_clamp (by omega)]; omega) N 2 ⟨2, rfl, by omega, g1⟩ (by show 15000 - _ < N; omega)
  obtain ⟨⟨p1, p2⟩, ho2, w2⟩ := mi_run_ok (mX6_generator_b15 N (nI P)) (fun s => ∃ j, 1 ≤ j ∧ s.1 = nI j ∧ ((j < g ∧ s.2 ≠ nI (P - 1)) ∨ (j = g ∧ s.2 = nI (P - 1)))) (fun o => o.1 = nI g) (fun s => g - s.1.toNatClampNeg) (by
    rintro ⟨x, y⟩ ⟨j, j1, e, h⟩
    have e : x = nI j := e
    subst e
    dsimp only [mX6_generator_b15, mi_let]
    rw [s1]
    by_cases c : y = nI (P - 1)
    · right; rw [if_pos c]
      rcases h with ⟨-, z⟩ | ⟨z, -⟩
      · exact absurd c z
      · exact ⟨_, rfl, by show nI j = nI g; rw [z]⟩
    · left
      rw [if_neg c]
      have hj : j < g := by
        rcases h with ⟨z, -⟩ | ⟨-, z⟩
        · exact z
        · exact absurd z c
      obtain ⟨k, k1, k2, k3, k4, ek⟩ := gen33 hN hp h5 hP (g := j + 1) (by omega) (by omega)
      rw [nI_1, ek]; simp only [Option.bind_some]
      refine ⟨_, rfl, ⟨j + 1, by omega, rfl, ?_⟩, ?_⟩
      · by_cases q : j + 1 = g
        · right
          refine ⟨q, ?_⟩
          show nI k = nI (P - 1)
          have : k = P - 1 := Classical.byContradiction fun z => (gnr_iff hp h5 (by omega) gP).mp gg k k1 (by omega) (q ▸ k3)
          rw [this]
        · left
          refine ⟨by omega, fun z => ?_⟩
          have z : nI k = nI (P - 1) := z
          have kk := (nI_eq (by omega) (by omega)).mp z
          refine gmin (j + 1) (by omega) ⟨by omega, by omega, (gnr_iff hp h5 (by omega) (by omega)).mpr (fun i i1 iP oi => k4 i i1 (by omega) oi)⟩
      · show g - (nI (j + 1)).toNatClampNeg < g - (nI j).toNatClampNeg
        rw [nI_clamp (by omega), nI_clamp (by omega)]; omega) N (1, 0) ⟨1, by omega, rfl, Or.inl ⟨g1, fun z => by
    have z : nI 0 = nI (P - 1) := z
    have := (nI_eq (by omega) (by omega)).mp z
    omega⟩⟩ (by show g - _ < N; omega)
  have w2' : p1 = nI g := w2
  subst w2'
  refine ⟨g, p2, ?_, ho2⟩
  unfold mX4_leastGenerator
  rw [ho]
  rcases o with y | y
  · have : y = nI g := w
    rw [this]; rfl
  · have : y = nI g := w
    rw [this]; rfl
theorem V_generator {N : Nat} (hN : 2 ^ 64 ≤ N) {P A B : Nat} {p a b rt pm cu : Int32} {f g pts ah ps as bs : Nat → Int32} {c : Int32} {pm1 : Int32} {f1 g1 : Nat → Int32} (hh : mX6_has N p a b rt pm cu f g ps as bs c = some (1, nI P, nI A, nI B, nI P, pm1, f1, g1)) (hU : CU P A B (nI P) (nI A) (nI B) (nI P) pm1 f1 g1 pts ah) : ∃ r, mX5_generator_s N (nI P) c = some r ∧ mX6_generator N p a b rt pm cu f g ps as bs c = some (r, nI P, nI A, nI B, nI P, pm1, f1, g1) := by
  obtain ⟨h1, hP, h5, hp, hA, hB⟩ := hU.pos
  obtain ⟨g2, y, e1, e2⟩ := gen2 hN hp h5 hP
  unfold mX5_generator_s mX6_generator
  rw [hh]; simp only [Option.bind_some]; rw [if_neg (show ¬ (1 : Int32) = 0 by decide)]
  rw [e1, e2]
  exact ⟨_, rfl, rfl⟩
