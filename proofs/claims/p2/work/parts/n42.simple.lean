/-! one call, on both sides, of a curve that is there -/
theorem V_root {N : Nat} (hN : 2 ^ 64 ≤ N) {P A B : Nat} {p a b rt pm cu : Int32} {f g pts ah ps as bs : Nat → Int32} {c : Int32} {pm1 : Int32} {f1 g1 : Nat → Int32} (hh : mX6_has N p a b rt pm cu f g ps as bs c = some (1, nI P, nI A, nI B, nI P, pm1, f1, g1)) (hU : CU P A B (nI P) (nI A) (nI B) (nI P) pm1 f1 g1 pts ah) {pr : Int32} {gl : Nat → Int32} (ht : tabC pr gl) (x : Int32) : ∃ r pr1 gl1, mX5_root_s N pr gl (nI P) c x = some (r, pr1, gl1) ∧ tabC pr1 gl1 ∧ mX6_root N p a b rt pm cu f g ps as bs c x = some (r, nI P, nI A, nI B, nI P, pm1, f1, g1) := by
  obtain ⟨h1, hP, h5, hp, hA, hB⟩ := hU.pos
  have hv := modF_lt h1 x.toInt64
  obtain ⟨gl1, e, hg⟩ := leastRoot_spec N (by omega) P h5 hP _ hv pr gl ht
  refine ⟨gl1 (modF P x.toInt64), nI P, gl1, ?_, rt_C h5 hP hg, ?_⟩
  · unfold mX5_root_s mX3_leastRoot; rw [fmodC N h1 hP]; simp only [Option.bind_some]; rw [e]; rfl
  · unfold mX6_root; rw [hh]; simp only [Option.bind_some]; rw [if_neg (by decide), modE N h1 hP]; simp only [Option.bind_some]; rw [if_neg (ix_nI (by omega) (by omega))]; dsimp only [mi_let]; rw [nI_clamp (by omega), rt_un hg hU.roots hv]
theorem V_inverse {N : Nat} (hN : 2 ^ 64 ≤ N) {P A B : Nat} {p a b rt pm cu : Int32} {f g pts ah ps as bs : Nat → Int32} {c : Int32} {pm1 : Int32} {f1 g1 : Nat → Int32} (hh : mX6_has N p a b rt pm cu f g ps as bs c = some (1, nI P, nI A, nI B, nI P, pm1, f1, g1)) (hU : CU P A B (nI P) (nI A) (nI B) (nI P) pm1 f1 g1 pts ah) (x : Int32) : ∃ r, mX5_inverse_s N (nI P) c x = some r ∧ mX6_inverse N p a b rt pm cu f g ps as bs c x = some (r, nI P, nI A, nI B, nI P, pm1, f1, g1) := by
  obtain ⟨h1, hP, h5, hp, hA, hB⟩ := hU.pos
  have hv := modF_lt h1 x.toInt64
  unfold mX5_inverse_s mX6_inverse
  rw [fmodC N h1 hP, hh]; simp only [Option.bind_some]; rw [if_neg (show ¬ (1 : Int32) = 0 by decide), modE N h1 hP]; simp only [Option.bind_some]
  by_cases c0 : nI (modF P x.toInt64) = 0
  · rw [if_pos c0, if_pos c0]; exact ⟨_, rfl, rfl⟩
  · rw [if_neg c0, if_neg c0]
    have v0 : 0 < modF P x.toInt64 := Nat.pos_of_ne_zero (fun z => c0 (by rw [z]; rfl))
    obtain ⟨r, hr, e1, e2, -⟩ := inv_both (N := N) (by omega) hp h5 hP hU.invs v0 hv
    rw [if_neg (ix_nI (by omega) (by omega)), e2]; dsimp only [mi_let, Option.bind_some]
    rw [nI_clamp (by omega), e1]; exact ⟨_, rfl, rfl⟩
theorem cmp_0le (y : Int64) : 0 ≤ lg_cmp y 0 ↔ 0 ≤ y.toInt := by
  rw [lg_cmp_ge, Int64.le_iff_toInt_le, l0_toInt]
theorem cmp_lt0 (y : Int64) : lg_cmp y 0 < 0 ↔ y.toInt < 0 := by
  have := cmp_0le y
  constructor
  · intro h; exact Int.not_le.mp (fun z => by have := this.mpr z; exact absurd h (Int32.not_lt.mpr this))
  · intro h; exact Int32.not_le.mp (fun z => by have := this.mp z; omega)
theorem V_power {N : Nat} (hN : 2 ^ 64 ≤ N) {P A B : Nat} {p a b rt pm cu : Int32} {f g pts ah ps as bs : Nat → Int32} {c : Int32} {pm1 : Int32} {f1 g1 : Nat → Int32} (hh : mX6_has N p a b rt pm cu f g ps as bs c = some (1, nI P, nI A, nI B, nI P, pm1, f1, g1)) (hU : CU P A B (nI P) (nI A) (nI B) (nI P) pm1 f1 g1 pts ah) (x : Int32) (y : Int64) : ∃ r, mX5_power_s N (nI P) c x y = some r ∧ mX6_power N p a b rt pm cu f g ps as bs c x y = some (r, nI P, nI A, nI B, nI P, pm1, f1, g1) := by
  obtain ⟨h1, hP, h5, hp, hA, hB⟩ := hU.pos
  have hv := modF_lt h1 x.toInt64
  unfold mX5_power_s mX6_power
  rw [hh]; simp only [Option.bind_some]; rw [if_neg (show ¬ (1 : Int32) = 0 by decide)]; dsimp only [mi_let]
  by_cases c0 : 0 ≤ y.toInt
  · rw [if_pos ((cmp_0le y).mpr c0), if_neg (fun w => by have := (cmp_lt0 y).mp w; omega), fmodC N h1 hP, modE N h1 hP]; simp only [Option.bind_some]
    rw [raisedC hN (by omega) (by omega) hv, powM hN (by omega) hP hv c0, uN_pos c0]; simp only [Option.bind_some]
    exact ⟨_, rfl, rfl⟩
  · rw [if_neg (fun w => c0 ((cmp_0le y).mp w)), if_pos ((cmp_lt0 y).mpr (by omega))]
    exact ⟨_, rfl, rfl⟩
/-- below p, on both sides -/
theorem below2 (N : Nat) (x : Int32) {P : Nat} (h1 : 1 ≤ P) (hP : P ≤ 10007) : (∃ X, x = nI X ∧ X < P ∧ mX4_isBelow N x (nI P) = some 1 ∧ mX6_in N x.toInt64 0 ((nI P - 1).toInt64) = some 1) ∨ (mX4_isBelow N x (nI P) = some 0 ∧ mX6_in N x.toInt64 0 ((nI P - 1).toInt64) = some 0) := by
  rcases belowC N x P hP with ⟨X, ⟨e, hX⟩, k⟩ | ⟨ne, k⟩
  · rcases belowM N x P h1 hP with ⟨Y, -, k'⟩ | ⟨ne, -⟩
    · exact Or.inl ⟨X, e, hX, k, k'⟩
    · exact absurd ⟨X, e, hX⟩ ne
  · rcases belowM N x P h1 hP with ⟨Y, q, -⟩ | ⟨-, k'⟩
    · exact absurd ⟨Y, q⟩ ne
    · exact Or.inr ⟨k, k'⟩
/-- a point, on both sides -/
theorem holds2 (N : Nat) {P A B : Nat} (h1 : 1 ≤ P) (hP : P ≤ 10007) (hA : A < P) (hB : B < P) (u : Int32) : (isPt P A B u ∧ mX0_holds N (nI P) (nI A) (nI B) u = some 1 ∧ mX6_isPoint N (nI P) (nI A) (nI B) u = some 1) ∨ (mX0_holds N (nI P) (nI A) (nI B) u = some 0 ∧ mX6_isPoint N (nI P) (nI A) (nI B) u = some 0) := by
  rcases holdsC N h1 hP hA hB u with ⟨k, e⟩ | ⟨k, e⟩
  · rcases isPtM N h1 hP hA hB u with ⟨-, e'⟩ | ⟨k', -⟩
    · exact Or.inl ⟨k, e, e'⟩
    · exact absurd k k'
  · rcases isPtM N h1 hP hA hB u with ⟨k', -⟩ | ⟨-, e'⟩
    · exact absurd k' k
    · exact Or.inr ⟨e, e'⟩
theorem V_point {N : Nat} (hN : 2 ^ 64 ≤ N) {P A B : Nat} {p a b rt pm cu : Int32} {f g pts ah ps as bs : Nat → Int32} {c : Int32} {pm1 : Int32} {f1 g1 : Nat → Int32} (hh : mX6_has N p a b rt pm cu f g ps as bs c = some (1, nI P, nI A, nI B, nI P, pm1, f1, g1)) (hU : CU P A B (nI P) (nI A) (nI B) (nI P) pm1 f1 g1 pts ah) (x y : Int32) : ∃ r, mX5_point_s N (nI P) (nI A) (nI B) c x y = some r ∧ mX6_point N p a b rt pm cu f g ps as bs c x y = some (r, nI P, nI A, nI B, nI P, pm1, f1, g1) := by
  obtain ⟨h1, hP, h5, hp, hA, hB⟩ := hU.pos
  unfold mX5_point_s mX6_point
  rw [hh]; simp only [Option.bind_some]; rw [if_neg (show ¬ (1 : Int32) = 0 by decide)]
  rcases below2 N x h1 hP with ⟨X, rfl, hX, e1, e2⟩ | ⟨e1, e2⟩
  · rw [e1, e2]; simp only [Option.bind_some]; rw [if_neg (show ¬ (1 : Int32) = 0 by decide), if_neg (show ¬ (1 : Int32) = 0 by decide)]
    rcases below2 N y h1 hP with ⟨Y, rfl, hY, e1, e2⟩ | ⟨e1, e2⟩
    · rw [e1, e2]; simp only [Option.bind_some]; rw [if_neg (show ¬ (1 : Int32) = 0 by decide), if_neg (show ¬ (1 : Int32) = 0 by decide), if_neg (nz_nI h1 hP)]
      have m := mul_lt hY hY hP
      dsimp only [mi_let]
      rw [pk_mul, rem_nI (by omega) (by omega) (by omega), cubicC N h1 hP hA hB hX, ptz hP hX hY]; simp only [Option.bind_some]
      have q1 : Y * Y % P < P := Nat.mod_lt _ h1
      have q2 := cub_lt P A B X h1
      rcases isPtM N h1 hP hA hB (nI (16384 * X + Y)) with ⟨k, e⟩ | ⟨k, e⟩
      · rw [isPt_nI hP (by omega), show (16384 * X + Y) / 16384 = X by omega, show (16384 * X + Y) % 16384 = Y by omega] at k
        rw [e, if_pos (by rw [k.2.2]), pair_nI N (by omega) (by omega)]; simp only [Option.bind_some]; rw [if_neg (show ¬ (1 : Int32) = 0 by decide)]
        exact ⟨_, rfl, rfl⟩
      · rw [isPt_nI hP (by omega), show (16384 * X + Y) / 16384 = X by omega, show (16384 * X + Y) % 16384 = Y by omega] at k
        rw [e, if_neg (fun w => k ⟨hX, hY, (nI_eq (by omega) (by omega)).mp w⟩)]; simp only [Option.bind_some]
        exact ⟨_, rfl, rfl⟩
    · rw [e1, e2]; exact ⟨_, rfl, rfl⟩
  · rw [e1, e2]; exact ⟨_, rfl, rfl⟩
theorem V_add {N : Nat} (hN : 2 ^ 64 ≤ N) {P A B : Nat} {p a b rt pm cu : Int32} {f g pts ah ps as bs : Nat → Int32} {c : Int32} {pm1 : Int32} {f1 g1 : Nat → Int32} (hh : mX6_has N p a b rt pm cu f g ps as bs c = some (1, nI P, nI A, nI B, nI P, pm1, f1, g1)) (hU : CU P A B (nI P) (nI A) (nI B) (nI P) pm1 f1 g1 pts ah) (hd : disc P A B ≠ 0) (u v : Int32) : ∃ r, mX5_add_s N (nI P) (nI A) (nI B) c u v = some r ∧ mX6_add N p a b rt pm cu f g ps as bs c u v = some (r, nI P, nI A, nI B, nI P, pm1, f1, g1) := by
  obtain ⟨h1, hP, h5, hp, hA, hB⟩ := hU.pos
  unfold mX5_add_s mX6_add
  rw [hh]; simp only [Option.bind_some]; rw [if_neg (show ¬ (1 : Int32) = 0 by decide)]
  rcases holds2 N h1 hP hA hB u with ⟨k, e1, e2⟩ | ⟨e1, e2⟩
  · rw [e1, e2]; simp only [Option.bind_some]; rw [if_neg (show ¬ (1 : Int32) = 0 by decide), if_neg (show ¬ (1 : Int32) = 0 by decide)]
    rcases holds2 N h1 hP hA hB v with ⟨k', e1, e2⟩ | ⟨e1, e2⟩
    · rw [e1, e2]; simp only [Option.bind_some]; rw [if_neg (show ¬ (1 : Int32) = 0 by decide), if_neg (show ¬ (1 : Int32) = 0 by decide)]
      obtain ⟨F, i, φ, hc⟩ := cx_ex hp h5 hP hA hB hd
      obtain ⟨U, hu⟩ := isPt_pe hc k
      obtain ⟨V, hv⟩ := isPt_pe hc k'
      obtain ⟨w, ew, pw⟩ := sumCe hc N (by omega) hu hv
      obtain ⟨w', ew', pw'⟩ := sumRe hc N hU.invs hu hv
      have := pe_inj hc.1 pw pw'
      subst this
      rw [ew, ew']; exact ⟨_, rfl, rfl⟩
    · rw [e1, e2]; exact ⟨_, rfl, rfl⟩
  · rw [e1, e2]; exact ⟨_, rfl, rfl⟩
theorem V_negative {N : Nat} (hN : 2 ^ 64 ≤ N) {P A B : Nat} {p a b rt pm cu : Int32} {f g pts ah ps as bs : Nat → Int32} {c : Int32} {pm1 : Int32} {f1 g1 : Nat → Int32} (hh : mX6_has N p a b rt pm cu f g ps as bs c = some (1, nI P, nI A, nI B, nI P, pm1, f1, g1)) (hU : CU P A B (nI P) (nI A) (nI B) (nI P) pm1 f1 g1 pts ah) (hd : disc P A B ≠ 0) (u : Int32) : ∃ r, mX5_negative_s N (nI P) (nI A) (nI B) c u = some r ∧ mX6_negative N p a b rt pm cu f g ps as bs c u = some (r, nI P, nI A, nI B, nI P, pm1, f1, g1) := by
  obtain ⟨h1, hP, h5, hp, hA, hB⟩ := hU.pos
  unfold mX5_negative_s mX6_negative
  rw [hh]; simp only [Option.bind_some]; rw [if_neg (show ¬ (1 : Int32) = 0 by decide)]
  rcases holds2 N h1 hP hA hB u with ⟨k, e1, e2⟩ | ⟨e1, e2⟩
  · rw [e1, e2]; simp only [Option.bind_some]; rw [if_neg (show ¬ (1 : Int32) = 0 by decide), if_neg (show ¬ (1 : Int32) = 0 by decide)]
    obtain ⟨F, i, φ, hc⟩ := cx_ex hp h5 hP hA hB hd
    obtain ⟨U, hu⟩ := isPt_pe hc k
    obtain ⟨w, ew, pw⟩ := oppCe hc N hu
    obtain ⟨w', ew', pw'⟩ := negRe hc N hu
    have := pe_inj hc.1 pw pw'
    subst this
    rw [ew, ew']; exact ⟨_, rfl, rfl⟩
  · rw [e1, e2]; exact ⟨_, rfl, rfl⟩
theorem V_times {N : Nat} (hN : 2 ^ 64 ≤ N) {P A B : Nat} {p a b rt pm cu : Int32} {f g pts ah ps as bs : Nat → Int32} {c : Int32} {pm1 : Int32} {f1 g1 : Nat → Int32} (hh : mX6_has N p a b rt pm cu f g ps as bs c = some (1, nI P, nI A, nI B, nI P, pm1, f1, g1)) (hU : CU P A B (nI P) (nI A) (nI B) (nI P) pm1 f1 g1 pts ah) (hd : disc P A B ≠ 0) (u : Int32) (y : Int64) : ∃ r, mX5_times_s N (nI P) (nI A) (nI B) c u y = some r ∧ mX6_times N p a b rt pm cu f g ps as bs c u y = some (r, nI P, nI A, nI B, nI P, pm1, f1, g1) := by
  obtain ⟨h1, hP, h5, hp, hA, hB⟩ := hU.pos
  unfold mX5_times_s mX6_times
  rw [hh]; simp only [Option.bind_some]; rw [if_neg (show ¬ (1 : Int32) = 0 by decide)]
  rcases holds2 N h1 hP hA hB u with ⟨k, e1, e2⟩ | ⟨e1, e2⟩
  · rw [e1, e2]; simp only [Option.bind_some]; rw [if_neg (show ¬ (1 : Int32) = 0 by decide), if_neg (show ¬ (1 : Int32) = 0 by decide)]
    obtain ⟨F, i, φ, hc⟩ := cx_ex hp h5 hP hA hB hd
    obtain ⟨U, hu⟩ := isPt_pe hc k
    obtain ⟨w, ew, pw⟩ := multC hc hN hu y
    obtain ⟨w', ew', pw'⟩ := multR hc hN hU.invs hu y
    have := pe_inj hc.1 pw pw'
    subst this
    rw [ew, ew']; exact ⟨_, rfl, rfl⟩
  · rw [e1, e2]; exact ⟨_, rfl, rfl⟩
