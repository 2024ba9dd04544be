theorem V_map {N : Nat} (hN : 2 ^ 64 ≤ N) {P A B : Nat} {p a b rt pm cu : Int32} {f g pts ah ps as bs : Nat → Int32} {c : Int32} {pm1 : Int32} {f1 g1 : Nat → Int32} (hh : mX6_has N p a b rt pm cu f g ps as bs c = some (1, nI P, nI A, nI B, nI P, pm1, f1, g1)) (hU : CU P A B (nI P) (nI A) (nI B) (nI P) pm1 f1 g1 pts ah) {p' a' b' rt' pm' : Int32} {f' g' : Nat → Int32} {i P' A' B' : Nat} (hi : i < 24) (hh0 : mX6_has N p' a' b' rt' pm' cu f' g' ps as bs (nI i) = some (1, p, a, b, rt, pm, f, g)) (ep : ps i = nI P') (ea : as i = nI A') (eb : bs i = nI B') (hP' : P' ≤ 10007) (hA' : A' < P') (hB' : B' < P') : ∃ r, mX0_leastMapTo N (nI P) (nI A) (nI B) (nI P') (nI A') (nI B') = some r ∧ mX6_map N p' a' b' rt' pm' cu f' g' ps as bs c (nI i) = some (r, nI P, nI A, nI B, nI P, pm1, f1, g1) := by
  obtain ⟨h1, hP, h5, hp, hA, hB⟩ := hU.pos
  unfold mX0_leastMapTo mX6_map
  rw [hh0]; simp only [Option.bind_some]; rw [if_neg (show ¬ (1 : Int32) = 0 by decide)]
  rw [hh]; simp only [Option.bind_some]; rw [if_neg (show ¬ (1 : Int32) = 0 by decide)]
  have hix : ¬ (nI i < 0 ∨ 24 ≤ (nI i).toNatClampNeg) := ix_nI (by omega) (by omega)
  rw [if_neg hix, nI_clamp (by omega), ep]; dsimp only [mi_let]
  by_cases e : P' = P
  · subst e
    obtain ⟨o, eo, ho⟩ := mpC hN h5 hP hA hB hA' hB'
    obtain ⟨o', eo', ho'⟩ := mpR hN h5 hP hA hB hA' hB' hi ea eb (nI P') pm1 f1 g1
    rw [if_pos rfl, if_pos rfl, eo, eo']; simp only [Option.bind_some]
    rcases o with y | w
    · rcases o' with y' | w'
      · exact ⟨_, rfl, rfl⟩
      · obtain ⟨w2, e2, q2⟩ := ho'
        have := isMp_un ho q2
        subst this e2
        exact ⟨_, rfl, rfl⟩
    · rcases o' with y' | w'
      · have := isMp_un ho ho'
        have z : w = -1 := this
        subst z
        exact ⟨_, rfl, rfl⟩
      · obtain ⟨w2, e2, q2⟩ := ho'
        have := isMp_un ho q2
        have z : w = w2 := this
        subst z e2
        exact ⟨_, rfl, rfl⟩
  · have ne : ¬ nI P' = nI P := fun w => e ((nI_eq (by omega) (by omega)).mp w)
    rw [if_neg ne, if_neg ne]
    exact ⟨_, rfl, rfl⟩
/-- the twist, on both sides -/
theorem tw_ns {F : Type} [mFld F] {P A B A' B' d : Nat} {φ : Int → F} (hF : isGF F P φ) (eA : A' = A * (d * d % P) % P) (eB : B' = B * (d * (d * d % P) % P) % P) : 4 * φ A' * φ A' * φ A' + 27 * φ B' * φ B' = (φ d * φ d * φ d) * (φ d * φ d * φ d) * (4 * φ A * φ A * φ A + 27 * φ B * φ B) := by
  have e1 : φ (A' : Int) = φ A * (φ d * φ d) := by rw [eA, gf_modN hF, Int.natCast_mul, hm_mul hF.1, gf_modN hF, Int.natCast_mul, hm_mul hF.1]
  have e2 : φ (B' : Int) = φ B * (φ d * (φ d * φ d)) := by rw [eB, gf_modN hF, Int.natCast_mul, hm_mul hF.1, gf_modN hF, Int.natCast_mul, hm_mul hF.1, gf_modN hF, Int.natCast_mul, hm_mul hF.1]
  rw [e1, e2]; grind
theorem tw2 {N : Nat} (hN : 2 ^ 64 ≤ N) {P A B : Nat} {pm : Int32} {f g pts ah : Nat → Int32} (hU : CU P A B (nI P) (nI A) (nI B) (nI P) pm f g pts ah) (hd : disc P A B ≠ 0) : ∃ d A' B' pm' f' g', 2 ≤ d ∧ d < P ∧ (∀ r, r < P → ¬ r * r % P = d) ∧ A' = A * (d * d % P) % P ∧ B' = B * (d * (d * d % P) % P) % P ∧ disc P A' B' ≠ 0 ∧ mX6_noSquare N g = some (nI d) ∧ mX4_leastNoSquare N (nI P) = some (nI d) ∧ mX0_twisted N (nI P) (nI A) (nI B) = some (nI P, nI A', nI B', 0, 0, 0, 0, 0, 0, 0, -1, -1) ∧ mX6_turn N (nI P) (nI A) (nI B) (nI P) pm f g = some (nI P, nI A', nI B', nI P, pm', f', g') ∧ CU P A' B' (nI P) (nI A') (nI B') (nI P) pm' f' g' pts ah := by
  obtain ⟨h1, hP, h5, hp, hA, hB⟩ := hU.pos
  obtain ⟨d, d2, dP, nd, e1, e2⟩ := noSq2 hN hp h5 hP hU.roots
  have m1 := mul_lt dP dP hP
  have l1 : d * d % P < P := Nat.mod_lt _ h1
  have m2 := mul_lt dP l1 hP
  have m2' := mul_lt l1 dP hP
  have l2 : d * (d * d % P) % P < P := Nat.mod_lt _ h1
  have m3 := mul_lt hA l1 hP
  have m4 := mul_lt hB l2 hP
  have lA : A * (d * d % P) % P < P := Nat.mod_lt _ h1
  have lB : B * (d * (d * d % P) % P) % P < P := Nat.mod_lt _ h1
  obtain ⟨pm', f', g', et, hC⟩ := take_spec N (by omega) (Or.inr ⟨P, A, B, hU⟩) hp h5 hP lA lB
  refine ⟨d, _, _, pm', f', g', d2, dP, nd, rfl, rfl, ?_, e1, e2, ?_, ?_, hC⟩
  · obtain ⟨F, i, φ, hF⟩ := gf_ex hp (by omega)
    have hc := cx_disc hF hp h5 hP hA hB hd
    intro z
    have k := gf_disc hF (A * (d * d % P) % P) (B * (d * (d * d % P) % P) % P)
    rw [z, tw_ns hF rfl rfl] at k
    have d0 : φ (d : Int) ≠ 0 := fun w => (show d ≠ 0 by omega) (gf_nat hF dP (by omega) (b := 0) (w.trans (hm_zero hF.1).symm))
    have k0 : φ ((0 : Nat) : Int) = 0 := hm_zero hF.1
    rw [k0] at k
    rcases Lean.Grind.Field.of_mul_eq_zero k.symm with w | w
    · rcases Lean.Grind.Field.of_mul_eq_zero w with w | w <;> (rcases Lean.Grind.Field.of_mul_eq_zero w with w | w; rcases Lean.Grind.Field.of_mul_eq_zero w with w | w; exact d0 w; exact d0 w; exact d0 w)
    · exact cxn hc w
  · unfold mX0_twisted
    have hz := nz_nI h1 hP
    rw [e2]; simp only [Option.bind_some]
    rw [if_neg hz]; dsimp only [mi_let]
    rw [if_neg hz, if_neg hz, if_neg hz, pk_mul, rem_nI (by omega) (by omega) (by omega), pk_mul, rem_nI (by omega) (by omega) (by omega), pk_mul, rem_nI (by omega) (by omega) (by omega), Nat.mul_comm (d * d % P) d, pk_mul, rem_nI (by omega) (by omega) (by omega)]
    rfl
  · unfold mX6_turn
    rw [e1]; simp only [Option.bind_some]
    rw [mulM N P d d h1 hP (by omega) (by omega) (by omega)]; simp only [Option.bind_some]
    rw [mulM N P A _ h1 hP (by omega) (by omega) (by omega), mulM N P d _ h1 hP (by omega) (by omega) (by omega)]; simp only [Option.bind_some]
    rw [mulM N P B _ h1 hP (by omega) (by omega) (by omega)]; simp only [Option.bind_some]
    rw [et]; rfl
theorem V_twist {N : Nat} (hN : 2 ^ 64 ≤ N) {P A B : Nat} {p a b rt pm cu : Int32} {f g pts ah ps as bs : Nat → Int32} {c : Int32} {pm1 : Int32} {f1 g1 : Nat → Int32} (hh : mX6_has N p a b rt pm cu f g ps as bs c = some (1, nI P, nI A, nI B, nI P, pm1, f1, g1)) (hU : CU P A B (nI P) (nI A) (nI B) (nI P) pm1 f1 g1 pts ah) (hd : disc P A B ≠ 0) {n : Nat} (hn : n ≤ 24) (ec : cu = nI n) (fr : Nat → Int32) : (n = 24 ∧ mX5_twist_s N (nI n) (nI P) (nI A) (nI B) c = some (.inl (-4, nI n)) ∧ mX6_twist N p a b rt pm cu f g ps as bs fr c = some (-4, nI P, nI A, nI B, nI P, pm1, nI n, f1, g1, ps, as, bs, fr)) ∨ (n < 24 ∧ ∃ A' B' pm2 f2 g2, A' < P ∧ B' < P ∧ disc P A' B' ≠ 0 ∧ mX5_twist_s N (nI n) (nI P) (nI A) (nI B) c = some (.inr (nI n, nI (n + 1), nI P, nI A', nI B', 0, 0, 0, 0, 0, 0, 0, -1, -1)) ∧ mX6_twist N p a b rt pm cu f g ps as bs fr c = some (nI n, nI P, nI A', nI B', nI P, pm2, nI (n + 1), f2, g2, upd ps n (nI P), upd as n (nI A'), upd bs n (nI B'), upd fr n (-1)) ∧ CU P A' B' (nI P) (nI A') (nI B') (nI P) pm2 f2 g2 pts ah) := by
  obtain ⟨h1, hP, h5, hp, hA, hB⟩ := hU.pos
  subst ec
  obtain ⟨d, A', B', pm2, f2, g2, d2, dP, nd, eA, eB, hd', -, -, e1, e2, hC⟩ := tw2 hN hU hd
  unfold mX5_twist_s mX6_twist
  rw [hh]; simp only [Option.bind_some]; rw [if_neg (show ¬ (1 : Int32) = 0 by decide)]
  rw [e1]; simp only [Option.bind_some]
  by_cases c0 : n = 24
  · left
    subst c0
    rw [if_neg (show ¬ nI 24 < 24 from nI_nlt (b := 24) (by omega) (by omega)), if_pos (show nI 24 = 24 from rfl)]
    exact ⟨rfl, rfl, rfl⟩
  · right
    have hix : ¬ (nI n < 0 ∨ 24 ≤ (nI n).toNatClampNeg) := ix_nI (by omega) (by omega)
    have hs : nI (n + 1) - 1 = nI n := by rw [nI_zI, nI_zI, show (1 : Int32) = zI 1 from rfl, zI_sub]; congr 1; omega
    refine ⟨by omega, A', B', pm2, f2, g2, by rw [eA]; exact Nat.mod_lt _ h1, by rw [eB]; exact Nat.mod_lt _ h1, hd', ?_, ?_, hC⟩
    · rw [if_pos (show nI n < 24 from nI_lt (b := 24) (by omega) (by omega))]
      unfold mX5_keep_k
      dsimp only [mi_let]
      rw [if_neg hix, nI_1, hs]
      rfl
    · rw [if_neg (show ¬ nI n = 24 from fun w => c0 ((nI_eq (b := 24) (by omega) (by omega)).mp w)), e2]; simp only [Option.bind_some]
      unfold mX6_make
      dsimp only [mi_let]
      rw [if_neg hix, if_neg hix, if_neg hix, if_neg hix, nI_clamp (by omega), nI_1, hs]
      rfl
