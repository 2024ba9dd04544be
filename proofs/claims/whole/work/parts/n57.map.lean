/-! maps -/
def isMp (P A B A' B' : Nat) (w : Int32) : Prop := (w = -1 ∧ ∀ u, 1 ≤ u → u < P → ¬ (A * (u ^ 4 % P) % P = A' ∧ B * (u ^ 6 % P) % P = B')) ∨ ∃ u, 1 ≤ u ∧ u < P ∧ w = nI u ∧ (A * (u ^ 4 % P) % P = A' ∧ B * (u ^ 6 % P) % P = B') ∧ ∀ v, 1 ≤ v → v < u → ¬ (A * (v ^ 4 % P) % P = A' ∧ B * (v ^ 6 % P) % P = B')
theorem isMp_un {P A B A' B' : Nat} {w w' : Int32} (h : isMp P A B A' B' w) (h' : isMp P A B A' B' w') : w = w' := by
  rcases h with ⟨e, no⟩ | ⟨k, k1, kP, e, kk, kl⟩
  · rcases h' with ⟨e', -⟩ | ⟨k', k1', kP', -, kk', -⟩
    · rw [e, e']
    · exact absurd kk' (no k' k1' kP')
  · rcases h' with ⟨-, no'⟩ | ⟨k', k1', kP', e', kk', kl'⟩
    · exact absurd kk (no' k k1 kP)
    · rcases Nat.lt_trichotomy k k' with q | q | q
      · exact absurd kk (kl' k k1 q)
      · rw [e, e', q]
      · exact absurd kk' (kl k' k1' q)
theorem mpC {N : Nat} (hN : 2 ^ 64 ≤ N) {P A B A' B' : Nat} (h5 : 5 ≤ P) (hP : P ≤ 10007) (hA : A < P) (hB : B < P) (hA' : A' < P) (hB' : B' < P) : ∃ o, mi_run (mX0_leastMapTo_b15 N (nI P) (nI A) (nI A') (nI B) (nI B')) N 1 = some o ∧ (match o with | .inl _ => isMp P A B A' B' (-1) | .inr w => isMp P A B A' B' w) := by
  refine mi_run_ok (mX0_leastMapTo_b15 N (nI P) (nI A) (nI A') (nI B) (nI B')) (fun s => ∃ k, s = nI k ∧ 1 ≤ k ∧ k ≤ P ∧ ∀ v, 1 ≤ v → v < k → ¬ (A * (v ^ 4 % P) % P = A' ∧ B * (v ^ 6 % P) % P = B')) _ (fun s => 15000 - s.toNatClampNeg) ?_ N 1 ⟨1, rfl, by omega, by omega, fun v v1 v2 => by omega⟩ (by show 15000 - _ < N; omega)
  rintro _ ⟨k, rfl, k1, kP, no⟩
  have h1 : 1 ≤ P := by omega
  dsimp only [mX0_leastMapTo_b15, mi_let]
  by_cases c : k = P
  · right
    rw [if_pos (nI_le (by omega) (by omega))]
    exact ⟨_, rfl, Or.inl ⟨rfl, fun u u1 uP => no u u1 (by omega)⟩⟩
  · have kl : k < P := by omega
    have hz := nz_nI h1 hP
    have m1 := mul_lt kl kl hP
    have l1 : k * k % P < P := Nat.mod_lt _ h1
    have m2 := mul_lt l1 l1 hP
    have p4 : k * k % P * (k * k % P) % P = k ^ 4 % P := by
      rw [← Nat.mul_mod]; congr 1; grind
    have p6 : k ^ 4 % P * (k * k % P) % P = k ^ 6 % P := by
      rw [← Nat.mul_mod]; congr 1; grind
    have l4 : k ^ 4 % P < P := Nat.mod_lt _ h1
    have l6 : k ^ 6 % P < P := Nat.mod_lt _ h1
    have m4 := mul_lt hA l4 hP
    have m6 := mul_lt hB l6 hP
    have m46 := mul_lt l4 l1 hP
    have q4 : A * (k ^ 4 % P) % P < P := Nat.mod_lt _ h1
    have q6 : B * (k ^ 6 % P) % P < P := Nat.mod_lt _ h1
    have ms : 15000 - (nI k + 1).toNatClampNeg < 15000 - (nI k).toNatClampNeg := by
      rw [nI_1, nI_clamp (by omega), nI_clamp (by omega)]; omega
    have nx : ¬ (A * (k ^ 4 % P) % P = A' ∧ B * (k ^ 6 % P) % P = B') → ∀ v, 1 ≤ v → v < k + 1 → ¬ (A * (v ^ 4 % P) % P = A' ∧ B * (v ^ 6 % P) % P = B') := fun z v v1 vk => by
      by_cases w : v = k
      · rw [w]; exact z
      · exact no v v1 (by omega)
    rw [if_neg (nI_ge kl (by omega)), if_neg hz, if_neg hz, if_neg hz, pk_mul, rem_nI (by omega) (by omega) (by omega), pk_mul, rem_nI (by omega) (by omega) (by omega), p4, pk_mul, rem_nI (by omega) (by omega) (by omega)]
    by_cases c4 : A * (k ^ 4 % P) % P = A'
    · rw [if_pos (by rw [c4]), if_neg hz, if_neg hz, pk_mul, rem_nI (by omega) (by omega) (by omega), p6, pk_mul, rem_nI (by omega) (by omega) (by omega)]
      by_cases c6 : B * (k ^ 6 % P) % P = B'
      · right
        rw [if_pos (by rw [c6])]
        exact ⟨_, rfl, Or.inr ⟨k, k1, kl, rfl, ⟨c4, c6⟩, no⟩⟩
      · left
        rw [if_neg (fun w => c6 ((nI_eq (by omega) (by omega)).mp w))]
        exact ⟨_, rfl, ⟨k + 1, nI_1 k, by omega, by omega, nx (fun z => c6 z.2)⟩, ms⟩
    · left
      rw [if_neg (fun w => c4 ((nI_eq (by omega) (by omega)).mp w))]
      exact ⟨_, rfl, ⟨k + 1, nI_1 k, by omega, by omega, nx (fun z => c4 z.1)⟩, ms⟩
theorem mpR {N : Nat} (hN : 2 ^ 64 ≤ N) {P A B A' B' : Nat} (h5 : 5 ≤ P) (hP : P ≤ 10007) (hA : A < P) (hB : B < P) (hA' : A' < P) (hB' : B' < P) {i : Nat} (hi : i < 24) {as bs : Nat → Int32} (ea : as i = nI A') (eb : bs i = nI B') (u5 u6 : Int32) (f g : Nat → Int32) : ∃ o, mi_run (mX6_map_b36 N (nI P) (nI A) (nI i) as (nI B) bs u5 u6 f g) N 1 = some o ∧ (match o with | .inl _ => isMp P A B A' B' (-1) | .inr y => ∃ w, y = (w, nI P, nI A, nI B, u5, u6, f, g) ∧ isMp P A B A' B' w) := by
  refine mi_run_ok (mX6_map_b36 N (nI P) (nI A) (nI i) as (nI B) bs u5 u6 f g) (fun s => ∃ k, s = nI k ∧ 1 ≤ k ∧ k ≤ P ∧ ∀ v, 1 ≤ v → v < k → ¬ (A * (v ^ 4 % P) % P = A' ∧ B * (v ^ 6 % P) % P = B')) _ (fun s => 15000 - s.toNatClampNeg) ?_ N 1 ⟨1, rfl, by omega, by omega, fun v v1 v2 => by omega⟩ (by show 15000 - _ < N; omega)
  rintro _ ⟨k, rfl, k1, kP, no⟩
  have h1 : 1 ≤ P := by omega
  have hix : ¬ (nI i < 0 ∨ 24 ≤ (nI i).toNatClampNeg) := ix_nI (by omega) (by omega)
  have icl : (nI i).toNatClampNeg = i := nI_clamp (by omega)
  dsimp only [mX6_map_b36, mi_let]
  by_cases c : k = P
  · right
    rw [if_pos (nI_le (by omega) (by omega))]
    exact ⟨_, rfl, Or.inl ⟨rfl, fun u u1 uP => no u u1 (by omega)⟩⟩
  · have kl : k < P := by omega
    have i4 : (4 : Int64).toInt = 4 := by decide
    have i6 : (6 : Int64).toInt = 6 := by decide
    have p4 : mX6_powered N (nI P) (nI k) 4 = some (nI (k ^ 4 % P)) := by
      have := powM hN (P := P) (v := k) (e := 4) (by omega) hP (by omega) (by rw [i4]; omega)
      rwa [i4] at this
    have p6 : mX6_powered N (nI P) (nI k) 6 = some (nI (k ^ 6 % P)) := by
      have := powM hN (P := P) (v := k) (e := 6) (by omega) hP (by omega) (by rw [i6]; omega)
      rwa [i6] at this
    have l4 : k ^ 4 % P < P := Nat.mod_lt _ h1
    have l6 : k ^ 6 % P < P := Nat.mod_lt _ h1
    have m4 := mul_lt hA l4 hP
    have m6 := mul_lt hB l6 hP
    have q4 : A * (k ^ 4 % P) % P < P := Nat.mod_lt _ h1
    have q6 : B * (k ^ 6 % P) % P < P := Nat.mod_lt _ h1
    have ms : 15000 - (nI k + 1).toNatClampNeg < 15000 - (nI k).toNatClampNeg := by
      rw [nI_1, nI_clamp (by omega), nI_clamp (by omega)]; omega
    have nx : ¬ (A * (k ^ 4 % P) % P = A' ∧ B * (k ^ 6 % P) % P = B') → ∀ v, 1 ≤ v → v < k + 1 → ¬ (A * (v ^ 4 % P) % P = A' ∧ B * (v ^ 6 % P) % P = B') := fun z v v1 vk => by
      by_cases w : v = k
      · rw [w]; exact z
      · exact no v v1 (by omega)
    rw [if_neg (nI_ge kl (by omega)), p4]; simp only [Option.bind_some]
    rw [mulM N P A _ h1 hP (by omega) (by omega) (by omega)]; simp only [Option.bind_some]
    rw [if_neg hix, icl, ea]
    by_cases c4 : A * (k ^ 4 % P) % P = A'
    · rw [if_pos (by rw [c4]), p6]; simp only [Option.bind_some]
      rw [mulM N P B _ h1 hP (by omega) (by omega) (by omega)]; simp only [Option.bind_some]
      rw [if_neg (show ¬ (nI i < 0 ∨ 24 ≤ i) from fun z => z.elim (nI_pos (by omega)) (fun z => by omega)), eb]
      by_cases c6 : B * (k ^ 6 % P) % P = B'
      · right
        rw [if_pos (by rw [c6])]
        exact ⟨_, rfl, _, rfl, Or.inr ⟨k, k1, kl, rfl, ⟨c4, c6⟩, no⟩⟩
      · left
        rw [if_neg (fun w => c6 ((nI_eq (by omega) (by omega)).mp w))]
        exact ⟨_, rfl, ⟨k + 1, nI_1 k, by omega, by omega, nx (fun z => c6 z.2)⟩, ms⟩
    · left
      rw [if_neg (fun w => c4 ((nI_eq (by omega) (by omega)).mp w))]
      exact ⟨_, rfl, ⟨k + 1, nI_1 k, by omega, by omega, nx (fun z => c4 z.1)⟩, ms⟩
