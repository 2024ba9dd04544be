theorem pm1_iff {P A x : Nat} (hp : isp P) (h5 : 5 ≤ P) (hA : A < P) (hx : x < P) : A * x % P = A ↔ A = 0 ∨ x = 1 := by
  obtain ⟨F, i, φ, hF⟩ := gf_ex hp (by omega)
  constructor
  · intro e
    by_cases a0 : A = 0
    · exact Or.inl a0
    · right
      have n0 : φ (A : Int) ≠ 0 := fun z => a0 (gf_nat hF hA (by omega) (b := 0) (z.trans (hm_zero hF.1).symm))
      have e2 : φ (A : Int) * φ (x : Int) = φ (A : Int) := by rw [← hm_mul hF.1, ← Int.natCast_mul, ← gf_modN hF, e]
      have i := Lean.Grind.Field.mul_inv_cancel n0
      refine gf_nat hF hx (by omega) (b := 1) ?_
      have h1 : φ ((1 : Nat) : Int) = 1 := hF.1.1
      rw [h1]
      grind
  · rintro (e | e)
    · rw [e, Nat.zero_mul, Nat.zero_mod]
    · rw [e, Nat.mul_one, Nat.mod_eq_of_lt hA]
def sm (P A B u : Nat) : Bool := decide (A * (u ^ 4 % P) % P = A) && decide (B * (u ^ 6 % P) % P = B)
theorem selfR {N : Nat} (hN : 2 ^ 64 ≤ N) {P A B : Nat} (hp : isp P) (h5 : 5 ≤ P) (hP : P ≤ 10007) (hA : A < P) (hB : B < P) (h0 : sm P A B 0 = false) : ∃ o, mi_run (mX6_told_b100 N (nI P) (nI A) (nI B)) N (0, 1) = some o ∧ o.1 = nI ((List.range P).filter (sm P A B)).length := by
  have h1 : 1 ≤ P := by omega
  have fl0 : ((List.range 1).filter (sm P A B)).length = 0 := by
    rw [show List.range 1 = [0] from rfl, List.filter_cons_of_neg (by rw [h0]; decide)]; rfl
  refine mi_run_ok (mX6_told_b100 N (nI P) (nI A) (nI B)) (fun s => ∃ k, 1 ≤ k ∧ k ≤ P ∧ s.2 = nI k ∧ s.1 = nI ((List.range k).filter (sm P A B)).length) (fun o => o.1 = nI ((List.range P).filter (sm P A B)).length) (fun s => 15000 - s.2.toNatClampNeg) ?_ N (0, 1) ⟨1, by omega, h1, rfl, by rw [fl0]; rfl⟩ (by show 15000 - _ < N; omega)
  rintro ⟨x1, x2⟩ ⟨k, k1, kP, e1, e2⟩
  have e1' : x2 = nI k := e1
  have e2' : x1 = nI ((List.range k).filter (sm P A B)).length := e2
  subst e1' e2'
  dsimp only [mX6_told_b100, mi_let]
  by_cases c : k = P
  · right
    subst c
    rw [if_pos (nI_le (Nat.le_refl _) (by omega))]
    exact ⟨_, rfl, rfl⟩
  · left
    have i4 : (4 : Int64).toInt = 4 := by decide
    have i6 : (6 : Int64).toInt = 6 := by decide
    have l4 : k ^ 4 % P < P := Nat.mod_lt _ h1
    have l6 : k ^ 6 % P < P := Nat.mod_lt _ h1
    have m4 := mul_lt hA l4 hP
    have m6 := mul_lt hB l6 hP
    have q4 : A * (k ^ 4 % P) % P < P := Nat.mod_lt _ h1
    have q6 : B * (k ^ 6 % P) % P < P := Nat.mod_lt _ h1
    have p4 : mX6_powered N (nI P) (nI k) 4 = some (nI (k ^ 4 % P)) := by
      have := powM hN (P := P) (v := k) (e := 4) (by omega) hP (by omega) (by rw [i4]; omega)
      rwa [i4] at this
    have p6 : mX6_powered N (nI P) (nI k) 6 = some (nI (k ^ 6 % P)) := by
      have := powM hN (P := P) (v := k) (e := 6) (by omega) hP (by omega) (by rw [i6]; omega)
      rwa [i6] at this
    have ms : 15000 - (nI k + 1).toNatClampNeg < 15000 - (nI k).toNatClampNeg := by
      rw [nI_1, nI_clamp (by omega), nI_clamp (by omega)]; omega
    have st : ∀ b : Bool, sm P A B k = b → ((List.range (k + 1)).filter (sm P A B)).length = ((List.range k).filter (sm P A B)).length + (if b = true then 1 else 0) := fun b hb => by
      rw [List.range_succ, List.filter_append, List.length_append]
      congr 1
      cases b
      · rw [List.filter_cons_of_neg (by rw [hb]; decide)]; rfl
      · rw [List.filter_cons_of_pos hb]; rfl
    rw [if_neg (nI_ge (by omega) (by omega)), p4]; simp only [Option.bind_some]
    rw [mulM N P A _ h1 hP (by omega) (by omega) (by omega)]; simp only [Option.bind_some]
    by_cases c4 : A * (k ^ 4 % P) % P = A
    · rw [if_pos (by rw [c4]), p6]; simp only [Option.bind_some]
      rw [mulM N P B _ h1 hP (by omega) (by omega) (by omega)]; simp only [Option.bind_some]
      by_cases c6 : B * (k ^ 6 % P) % P = B
      · rw [if_pos (by rw [c6])]
        refine ⟨_, rfl, ⟨k + 1, by omega, by omega, nI_1 k, ?_⟩, ms⟩
        rw [st true (by unfold sm; rw [decide_eq_true c4, decide_eq_true c6]; rfl)]
        exact nI_1 _
      · rw [if_neg (fun w => c6 ((nI_eq (by omega) (by omega)).mp w))]
        refine ⟨_, rfl, ⟨k + 1, by omega, by omega, nI_1 k, ?_⟩, ms⟩
        rw [st false (by unfold sm; rw [decide_eq_false c6, Bool.and_false])]
        exact Int32.add_zero _
    · rw [if_neg (fun w => c4 ((nI_eq (by omega) (by omega)).mp w))]
      refine ⟨_, rfl, ⟨k + 1, by omega, by omega, nI_1 k, ?_⟩, ms⟩
      rw [st false (by unfold sm; rw [decide_eq_false c4, Bool.false_and])]
      exact Int32.add_zero _
theorem sm_iff {P A B u : Nat} (hp : isp P) (h5 : 5 ≤ P) (hA : A < P) (hB : B < P) : sm P A B u = true ↔ (A = 0 ∨ u ^ 4 % P = 1) ∧ (B = 0 ∨ u ^ 6 % P = 1) := by
  unfold sm
  rw [Bool.and_eq_true, decide_eq_true_iff, decide_eq_true_iff, pm1_iff hp h5 hA (Nat.mod_lt _ (by omega)), pm1_iff hp h5 hB (Nat.mod_lt _ (by omega))]
theorem self2 {N : Nat} (hN : 2 ^ 64 ≤ N) {P A B : Nat} (hp : isp P) (h5 : 5 ≤ P) (hP : P ≤ 10007) (hA : A < P) (hB : B < P) (hd : disc P A B ≠ 0) : ∃ o, mi_run (mX6_told_b100 N (nI P) (nI A) (nI B)) N (0, 1) = some o ∧ mX0_selfMaps N (nI P) (nI A) (nI B) = some o.1 := by
  have nz : ¬ (A = 0 ∧ B = 0) := fun w => hd (by unfold disc; rw [w.1, w.2]; simp)
  have h0 : sm P A B 0 = false := by
    refine Bool.eq_false_iff.mpr fun w => ?_
    rw [sm_iff hp h5 hA hB, show (0 : Nat) ^ 4 = 0 from rfl, Nat.zero_mod] at w
    omega
  obtain ⟨o, e, q⟩ := selfR hN hp h5 hP hA hB h0
  refine ⟨o, e, ?_⟩
  rw [q]
  have s1 : nI P - 1 = nI (P - 1) := by rw [nI_zI, nI_zI, show (1 : Int32) = zI 1 from rfl, zI_sub]; congr 1; omega
  have cong : ∀ n, 0 < n → (∀ u, sm P A B u = true ↔ u ^ n % P = 1) → ((List.range P).filter (sm P A B)).length = Nat.gcd n (P - 1) := fun n n0 k => by
    rw [← cntpow hp h5 n0]
    congr 1
    refine List.filter_congr (fun u _ => ?_)
    by_cases z : u ^ n % P = 1
    · rw [(k u).mpr z, decide_eq_true z]
    · rw [decide_eq_false z]; exact Bool.eq_false_iff.mpr fun w => z ((k u).mp w)
  unfold mX0_selfMaps
  by_cases a0 : A = 0
  · rw [if_pos (show nI A = 0 by rw [a0]; rfl), s1, show (6 : Int32) = nI 6 from rfl, gcdC hN (by omega) (by omega) (by omega), cong 6 (by omega) (fun u => by
      rw [sm_iff hp h5 hA hB]
      exact ⟨fun w => by rcases w.2 with z | z; exact absurd ⟨a0, z⟩ nz; exact z, fun w => ⟨Or.inl a0, Or.inr w⟩⟩)]
    rfl
  · rw [if_neg (nI_ne0 (by omega) (by omega))]
    by_cases b0 : B = 0
    · rw [if_pos (show nI B = 0 by rw [b0]; rfl), s1, show (4 : Int32) = nI 4 from rfl, gcdC hN (by omega) (by omega) (by omega), cong 4 (by omega) (fun u => by
        rw [sm_iff hp h5 hA hB]
        exact ⟨fun w => by rcases w.1 with z | z; exact absurd z a0; exact z, fun w => ⟨Or.inr w, Or.inl b0⟩⟩)]
      rfl
    · rw [if_neg (nI_ne0 (by omega) (by omega)), cong 2 (by omega) (fun u => by
        rw [sm_iff hp h5 hA hB]
        constructor
        · rintro ⟨z4, z6⟩
          have z4 := z4.resolve_left a0
          have z6 := z6.resolve_left b0
          rw [show u ^ 6 = u ^ 4 * u ^ 2 from Nat.pow_add u 4 2, Nat.mul_mod, z4, Nat.one_mul, Nat.mod_mod] at z6
          exact z6
        · intro z
          have p : ∀ k, u ^ (2 * k) % P = 1 := fun k => by rw [Nat.pow_mul, Nat.pow_mod, z, Nat.one_pow, Nat.mod_eq_of_lt (by omega)]
          exact ⟨Or.inr (p 2), Or.inr (p 3)⟩)]
      have od := pr_odd hp h5
      have g2 : Nat.gcd 2 (P - 1) = 2 := Nat.gcd_eq_left ⟨(P - 1) / 2, by omega⟩
      rw [g2]; rfl
theorem V_told {N : Nat} (hN : 2 ^ 64 ≤ N) {P A B : Nat} {p a b rt pm cu : Int32} {f g pts ah ps as bs : Nat → Int32} {c : Int32} {pm1 : Int32} {f1 g1 : Nat → Int32} (hh : mX6_has N p a b rt pm cu f g ps as bs c = some (1, nI P, nI A, nI B, nI P, pm1, f1, g1)) (hU : CU P A B (nI P) (nI A) (nI B) (nI P) pm1 f1 g1 pts ah) (hd : disc P A B ≠ 0) (x : Int32) : ∃ r, mX5_told_s N (nI P) (nI A) (nI B) c x = some r ∧ mX6_told N p a b rt pm cu f g ps as bs c x = some (r, nI P, nI A, nI B, nI P, pm1, f1, g1) := by
  obtain ⟨h1, hP, h5, hp, hA, hB⟩ := hU.pos
  unfold mX5_told_s mX6_told
  rw [hh]; simp only [Option.bind_some]; rw [if_neg (show ¬ (1 : Int32) = 0 by decide)]
  by_cases k0 : x = 0
  · rw [if_pos k0, if_pos k0]; exact ⟨_, rfl, rfl⟩
  rw [if_neg k0, if_neg k0]
  by_cases k1 : x = 1
  · rw [if_pos k1, if_pos k1]; exact ⟨_, rfl, rfl⟩
  rw [if_neg k1, if_neg k1]
  by_cases k2 : x = 2
  · rw [if_pos k2, if_pos k2]; exact ⟨_, rfl, rfl⟩
  rw [if_neg k2, if_neg k2]
  by_cases k3 : x = 3
  · obtain ⟨r, e1, e2⟩ := jot2 hN hp h5 hP hA hB hd hU.invs
    rw [if_pos k3, if_pos k3, e1, e2]; exact ⟨_, rfl, rfl⟩
  rw [if_neg k3, if_neg k3]
  by_cases k4 : x = 4
  · obtain ⟨r, e1, e2⟩ := dis2 (N := N) h1 hP hA hB
    rw [cubC N P A B h1 hP hA hB] at e1
    rw [splitM N P A B h1 hP hA hB] at e2
    simp only [Option.bind_some] at e1 e2
    rw [if_pos k4, if_pos k4, cubC N P A B h1 hP hA hB, splitM N P A B h1 hP hA hB]; simp only [Option.bind_some]
    rw [e1, e2]; exact ⟨_, rfl, rfl⟩
  rw [if_neg k4, if_neg k4]
  by_cases k5 : x = 5
  · obtain ⟨d, -, -, -, e1, e2⟩ := noSq2 hN hp h5 hP hU.roots
    rw [if_pos k5, if_pos k5, e1, e2]; exact ⟨_, rfl, rfl⟩
  rw [if_neg k5, if_neg k5]
  by_cases k6 : x = 6
  · obtain ⟨o, e1, e2⟩ := self2 hN hp h5 hP hA hB hd
    rw [if_pos k6, if_pos k6, e1, e2]; exact ⟨_, rfl, rfl⟩
  rw [if_neg k6, if_neg k6]; exact ⟨_, rfl, rfl⟩
