theorem nsq_neg {F : Type} [mFld F] {P : Nat} {φ : Int → F} (hF : isGF F P φ) (hp : isp P) (h5 : 5 ≤ P) {e : Nat} (he : P = 2 * e + 1) (he2 : (P - 1) / 2 = e) {v : Nat} (v0 : 0 < v) (hv : v < P) (no : ∀ r, r < P → ¬ r * r % P = v) : φ (v : Int) ^ e = -1 := by
  have k := gf_fp hF hp (by omega)
  have n0 : φ (v : Int) ≠ 0 := fun z => (show v ≠ 0 by omega) (gf_nat hF hv (by omega) (b := 0) (z.trans (hm_zero hF.1).symm))
  have h := k.2.2.2 (φ (v : Int))
  rw [he, show 2 * e + 1 = e + e + 1 by omega, Lean.Grind.Semiring.pow_succ, rp_add] at h
  have i := Lean.Grind.Field.mul_inv_cancel n0
  have h2 : (φ (v : Int) ^ e - 1) * (φ (v : Int) ^ e + 1) = 0 := by
    generalize φ (v : Int) ^ e = w at *
    grind
  rcases Lean.Grind.Field.of_mul_eq_zero h2 with z | z
  · exfalso
    have z1 : φ (v : Int) ^ e = 1 := by grind
    have : v ^ ((P - 1) / 2) % P = 1 := by
      refine gf_nat hF (Nat.mod_lt _ (by omega)) (by omega) (b := 1) ?_
      rw [gf_modN hF, Int.natCast_pow, hm_pow hF.1, he2, z1]; exact hF.1.1.symm
    obtain ⟨r, hr, e1⟩ := (eulN hp h5 v0 hv).mp this
    exact no r hr e1
  · grind
theorem tw_root {P A B A' B' d x : Nat} (hp : isp P) (h5 : 5 ≤ P) (d2 : 2 ≤ d) (dP : d < P) (nd : ∀ r, r < P → ¬ r * r % P = d) (eA : A' = A * (d * d % P) % P) (eB : B' = B * (d * (d * d % P) % P) % P) (no : ∀ r, r < P → ¬ r * r % P = cub P A B x) : ∃ r, isR P (cub P A' B' (d * x % P)) r := by
  obtain ⟨F, i, φ, hF⟩ := gf_ex hp (by omega)
  have he := pr_odd hp h5
  have k := gf_fp hF hp (by omega)
  have h2 : (2 : F) ≠ 0 := (gf_ch hF).1 2 (by omega) (by omega)
  have vl := cub_lt P A B x (by omega)
  have v0 : 0 < cub P A B x := Nat.pos_of_ne_zero fun z => no 0 (by omega) (by rw [z]; simp)
  have e1 := nsq_neg hF hp h5 he rfl (by omega) dP nd
  have e2 := nsq_neg hF hp h5 he rfl v0 vl no
  have a1 : φ (A' : Int) = φ A * (φ d * φ d) := by rw [eA, gf_modN hF, Int.natCast_mul, hm_mul hF.1, gf_modN hF, Int.natCast_mul, hm_mul hF.1]
  have b1 : φ (B' : Int) = φ B * (φ d * (φ d * φ d)) := by rw [eB, gf_modN hF, Int.natCast_mul, hm_mul hF.1, gf_modN hF, Int.natCast_mul, hm_mul hF.1, gf_modN hF, Int.natCast_mul, hm_mul hF.1]
  have x1 : φ ((d * x % P : Nat) : Int) = φ d * φ x := by rw [gf_modN hF, Int.natCast_mul, hm_mul hF.1]
  have cu := gf_cub hF A' B' (d * x % P)
  have cv := gf_cub hF A B x
  have w : φ ((cub P A' B' (d * x % P) : Nat) : Int) = (φ d * φ d * φ d) * φ ((cub P A B x : Nat) : Int) := by
    rw [cu, cv, a1, b1, x1]
    unfold cb
    grind
  have d0 : φ (d : Int) ≠ 0 := fun z => (show d ≠ 0 by omega) (gf_nat hF dP (by omega) (b := 0) (z.trans (hm_zero hF.1).symm))
  have n0 : φ ((cub P A B x : Nat) : Int) ≠ 0 := fun z => (show cub P A B x ≠ 0 by omega) (gf_nat hF vl (by omega) (b := 0) (z.trans (hm_zero hF.1).symm))
  have nz : (φ (d : Int) * φ d * φ d) * φ ((cub P A B x : Nat) : Int) ≠ 0 := fun z => by
    rcases Lean.Grind.Field.of_mul_eq_zero z with z | z
    · rcases Lean.Grind.Field.of_mul_eq_zero z with z | z
      · rcases Lean.Grind.Field.of_mul_eq_zero z with z | z <;> exact d0 z
      · exact d0 z
    · exact n0 z
  obtain ⟨r, hr⟩ := sqrt_ex k he h2 nz (by
    rw [rp_mul, rp_mul, rp_mul, e1, e2]; grind)
  obtain ⟨n, hn, rfl⟩ := hF.2.2 r
  refine root_of hn (gf_nat hF (Nat.mod_lt _ (by omega)) (cub_lt P A' B' (d * x % P) (by omega)) ?_)
  rw [gf_modN hF, Int.natCast_mul, hm_mul hF.1, w]; exact hr
