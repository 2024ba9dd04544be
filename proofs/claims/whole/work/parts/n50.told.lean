/-! squares by a power -/
theorem eulN {P v : Nat} (hp : isp P) (h5 : 5 ≤ P) (v0 : 0 < v) (hv : v < P) : v ^ ((P - 1) / 2) % P = 1 ↔ ∃ r, r < P ∧ r * r % P = v := by
  obtain ⟨F, i, φ, hF⟩ := gf_ex hp (by omega)
  have he := pr_odd hp h5
  generalize (P - 1) / 2 = e at *
  have k := gf_fp hF hp (by omega)
  have h2 : (2 : F) ≠ 0 := (gf_ch hF).1 2 (by omega) (by omega)
  have n0 : φ (v : Int) ≠ 0 := fun z => (show v ≠ 0 by omega) (gf_nat hF hv (by omega) (b := 0) (z.trans (hm_zero hF.1).symm))
  have pw : φ ((v ^ e % P : Nat) : Int) = φ (v : Int) ^ e := by rw [gf_modN hF, Int.natCast_pow, hm_pow hF.1]
  constructor
  · intro z
    rw [z] at pw
    obtain ⟨r, hr⟩ := sqrt_ex k he h2 n0 (pw.symm.trans hF.1.1)
    obtain ⟨n, hn, rfl⟩ := hF.2.2 r
    refine ⟨n, hn, gf_nat hF (Nat.mod_lt _ (by omega)) hv ?_⟩
    rw [gf_modN hF, Int.natCast_mul, hm_mul hF.1]; exact hr
  · rintro ⟨r, hr, e1⟩
    have e2 : φ (v : Int) = φ (r : Int) * φ (r : Int) := by rw [← e1, gf_modN hF, Int.natCast_mul, hm_mul hF.1]
    have r0 : φ (r : Int) ≠ 0 := fun z => n0 (by rw [e2, z]; grind)
    have one : φ (v : Int) ^ e = 1 := by
      rw [e2, rp_mul, ← rp_add]
      have := k.2.2.2 (φ (r : Int))
      rw [he, show 2 * e + 1 = e + e + 1 by omega, Lean.Grind.Semiring.pow_succ] at this
      have i := Lean.Grind.Field.mul_inv_cancel r0
      grind
    refine gf_nat hF (Nat.mod_lt _ (by omega)) (by omega) (b := 1) ?_
    rw [pw, one]; exact hF.1.1.symm
/-- the least number that isn't a square, on both sides -/
theorem noSq2 {N : Nat} (hN : 2 ^ 64 ≤ N) {P : Nat} (hp : isp P) (h5 : 5 ≤ P) (hP : P ≤ 10007) {g : Nat → Int32} (hg : rootTab P g) : ∃ d, 2 ≤ d ∧ d < P ∧ (∀ r, r < P → ¬ r * r % P = d) ∧ mX6_noSquare N g = some (nI d) ∧ mX4_leastNoSquare N (nI P) = some (nI d) := by
  obtain ⟨d, d2, dP, gd, gl, e⟩ := noSquareA N (by omega) P hp h5 hP g hg
  have nd : ∀ r, r < P → ¬ r * r % P = d := by
    rcases rt_cases hg dP with ⟨-, q⟩ | ⟨r, q, hr⟩
    · exact q
    · have := hr.1
      exact absurd (q.symm.trans gd) (nI_m1 (by omega))
  refine ⟨d, d2, dP, nd, e, ?_⟩
  have sq : ∀ v, 2 ≤ v → v < d → ∃ r, r < P ∧ r * r % P = v := fun v v2 vd => by
    rcases rt_cases hg (v := v) (by omega) with ⟨q, -⟩ | ⟨r, -, hr⟩
    · exact absurd q (gl v v2 vd)
    · exact ⟨r, hr.1, hr.2.1⟩
  have ed : uN (nI ((P - 1) / 2)).toInt64 = (P - 1) / 2 := by
    rw [uN_pos (by rw [nIl_toInt (by omega)]; omega), nIl_toInt (by omega)]; omega
  have s1 : nI P - 1 = nI (P - 1) := by rw [nI_zI, nI_zI, show (1 : Int32) = zI 1 from rfl, zI_sub]; congr 1; omega
  obtain ⟨o, ho, q⟩ := mi_run_ok (mX4_leastNoSquare_b2 N (nI P)) (fun s => ∃ k, s = nI k ∧ 2 ≤ k ∧ k ≤ d) (fun o => match o with | .inl y => y = nI d | .inr y => y = nI d) (fun s => 15000 - s.toNatClampNeg) (by
    rintro _ ⟨k, rfl, k2, kd⟩
    dsimp only [mX4_leastNoSquare_b2, mi_let]
    rw [s1]
    by_cases c : P - 1 ≤ k
    · right
      rw [if_pos (nI_le c (by omega))]
      exact ⟨_, rfl, by show nI k = nI d; congr 1; omega⟩
    · rw [if_neg (nI_ge (by omega) (by omega)), show (2 : Int32) = nI 2 from rfl, n32_div (by omega) (by omega) (by omega), raisedC hN (by omega) (by omega) (show k < P by omega), ed]; simp only [Option.bind_some]
      have ml : k ^ ((P - 1) / 2) % P < P := Nat.mod_lt _ (by omega)
      by_cases z : k = d
      · right
        subst z
        rw [if_neg (fun w => by
          have := (nI_eq (b := 1) (by omega) (by omega)).mp w
          obtain ⟨r, hr, e⟩ := (eulN hp h5 (by omega) dP).mp this
          exact nd r hr e)]
        exact ⟨_, rfl, rfl⟩
      · left
        rw [(eulN hp h5 (by omega) (show k < P by omega)).mpr (sq k k2 (by omega)), if_pos (show nI 1 = 1 from rfl)]
        refine ⟨_, rfl, ⟨k + 1, nI_1 k, by omega, by omega⟩, ?_⟩
        rw [nI_1, nI_clamp (by omega), nI_clamp (by omega)]; omega) N 2 ⟨2, rfl, by omega, d2⟩ (by show 15000 - _ < N; omega)
  unfold mX4_leastNoSquare
  rw [ho]
  rcases o with y | y
  · have : y = nI d := q
    rw [this]; rfl
  · have : y = nI d := q
    rw [this]; rfl
/-- the invariant, on both sides -/
theorem jot2 {N : Nat} (hN : 2 ^ 64 ≤ N) {P A B : Nat} (hp : isp P) (h5 : 5 ≤ P) (hP : P ≤ 10007) (hA : A < P) (hB : B < P) (hd : disc P A B ≠ 0) {f : Nat → Int32} (hf : invOK P f) : ∃ r, mX6_jOf N (nI P) (nI A) (nI B) f = some (nI r) ∧ mX0_invariant N (nI P) (nI A) (nI B) = some (nI r) := by
  have h1 : 1 ≤ P := by omega
  have dl : disc P A B < P := Nat.mod_lt _ h1
  obtain ⟨i, hi, e1, e2, -⟩ := inv_both (N := N) (by omega) hp h5 hP hf (v := disc P A B) (by omega) dl
  have hp0 := nz_nI h1 hP
  have m1 := mul_lt hA hA hP
  have l1 : A * A % P < P := Nat.mod_lt _ h1
  have m2 := mul_lt l1 hA hP
  have l2 : A * A % P * A % P < P := Nat.mod_lt _ h1
  have m3 : 4 * (A * A % P) * A = 4 * (A * A % P * A) := Nat.mul_assoc _ _ _
  have e3 : 4 * (A * A % P * A % P) % P = 4 * (A * A % P) * A % P := by rw [m3, Nat.mul_mod_mod]
  have l3 : 4 * (A * A % P) * A % P < P := Nat.mod_lt _ h1
  have l4 : 1728 % P < P := Nat.mod_lt _ h1
  have m5 := mul_lt l4 l3 hP
  have l5 : 1728 % P * (4 * (A * A % P) * A % P) % P < P := Nat.mod_lt _ h1
  have m6 := mul_lt l5 hi hP
  refine ⟨1728 % P * (4 * (A * A % P) * A % P) % P * i % P, ?_, ?_⟩
  · unfold mX6_jOf
    rw [mulM N P A A h1 hP (by omega) (by omega) (by omega)]; simp only [Option.bind_some]
    rw [mulM N P _ A h1 hP (by omega) (by omega) (by omega)]; simp only [Option.bind_some]
    rw [show (4 : Int32) = nI 4 from rfl, mulM N P 4 _ h1 hP (by omega) (by omega) (by omega), show (1728 : Int64) = lN 1728 from rfl, modM N P 1728 h1 hP (by omega)]; simp only [Option.bind_some]
    rw [e3, mulM N P _ _ h1 hP (by omega) (by omega) (by omega), splitM N P A B h1 hP hA hB]; simp only [Option.bind_some]
    rw [if_neg (ix_nI (by omega) (by omega)), nI_clamp (by omega), e1]; dsimp only [mi_let]
    rw [mulM N P _ _ h1 hP (by omega) (by omega) (by omega)]; rfl
  · unfold mX0_invariant
    rw [if_neg hp0]; dsimp only [mi_let]
    rw [if_neg hp0, if_neg hp0, if_neg hp0, cubC N P A B h1 hP hA hB]; simp only [Option.bind_some]
    rw [e2]; simp only [Option.bind_some]
    rw [if_neg hp0, pk_mul, rem_nI (by omega) (by omega) (by omega), show (4 : Int32) = nI 4 from rfl, pk_mul, pk_mul, rem_nI (by omega) (by omega) (by omega), show (1728 : Int32) = nI 1728 from rfl, rem_nI (by omega) (by omega) (by omega), pk_mul, rem_nI (by omega) (by omega) (by omega), pk_mul, rem_nI (by omega) (by omega) (by omega)]
theorem dis2 {N P A B : Nat} (h1 : 1 ≤ P) (hP : P ≤ 10007) (hA : A < P) (hB : B < P) : ∃ r, (mX4_cubicMark N (nI A) (nI B) (nI P)).bind (fun r8 => mJ9_floorMod_7cf53 N ((-16) * r8) (nI P)) = some (nI r) ∧ (mX6_split N (nI P) (nI A) (nI B)).bind (fun r17 => mX6_mod N (nI P) ((-16) * r17.toInt64)) = some (nI r) := by
  have dl : disc P A B < P := Nat.mod_lt _ h1
  rw [cubC N P A B h1 hP hA hB, splitM N P A B h1 hP hA hB]; simp only [Option.bind_some]
  rw [fmodC N h1 hP, modE N h1 hP]
  have : ((-16 : Int32) * nI (disc P A B)).toInt64 = (-16) * (nI (disc P A B)).toInt64 := by
    apply Int64.toInt_inj.mp
    rw [Int32.toInt_toInt64, Int64.toInt_mul, Int32.toInt_mul, nIl_toInt (by omega), nI_toInt (by omega), show (-16 : Int32).toInt = -16 by decide, show (-16 : Int64).toInt = -16 by decide, Int.bmod_eq_of_le (by omega) (by omega), Int.bmod_eq_of_le (by omega) (by omega)]
  rw [this]
  exact ⟨_, rfl, rfl⟩
