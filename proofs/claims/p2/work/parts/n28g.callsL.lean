/-! calls with loops -/
theorem nI_le_iff {k P : Nat} (hk : k < 2 ^ 31) (hP : P < 2 ^ 31) : nI P ≤ nI k ↔ P ≤ k := nI_leI hP hk
theorem told100 {N : Nat} (hN : 2 ^ 64 ≤ N) {P : Nat} (h1 : 1 ≤ P) (hP : P ≤ 10007) (a b : Int32) : ∃ o, mi_run (mX6_told_b100 N (nI P) a b) N (0, 1) = some o := by
  obtain ⟨o, ho, -⟩ := mi_run_ok (mX6_told_b100 N (nI P) a b) (fun s => ∃ k, k ≤ P + 1 ∧ s.2 = nI k) (fun _ => True) (fun s => P + 2 - s.2.toNatClampNeg) (by
    rintro ⟨x, y⟩ ⟨k, hk, e⟩
    have e : y = nI k := e
    subst e
    dsimp only [mX6_told_b100]
    by_cases c : P ≤ k
    · right; rw [if_pos ((nI_le_iff (by omega) (by omega)).mpr c)]; exact ⟨_, rfl, trivial⟩
    · left
      rw [if_neg (fun h => c ((nI_le_iff (by omega) (by omega)).mp h))]
      have hmu : P + 2 - (nI (k + 1)).toNatClampNeg < P + 2 - (nI k).toNatClampNeg := by rw [nI_clamp (by omega), nI_clamp (by omega)]; omega
      simp only [mulE N h1 hP, powE hN h1 hP, Option.bind_some, mi_let, nI_1]
      repeat' split
      all_goals exact ⟨_, rfl, ⟨k + 1, by omega, rfl⟩, hmu⟩) N (0, 1) ⟨1, by omega, rfl⟩ (by show P + 2 - _ < N; omega)
  exact ⟨o, ho⟩
theorem T_told {N : Nat} (hN : 2 ^ 64 ≤ N) {cu : Int32} {ps as bs : Nat → Int32} (hS : ST cu ps as bs) {p a b rt pm : Int32} {f g pts ah : Nat → Int32} (hC : CUR p a b rt pm f g pts ah) (c : Int32) (x : Int32) : ∃ r p1 a1 b1 rt1 pm1 f1 g1, mX6_told N p a b rt pm cu f g ps as bs c x = some (r, p1, a1, b1, rt1, pm1, f1, g1) ∧ CUR p1 a1 b1 rt1 pm1 f1 g1 pts ah := by
  unfold mX6_told
  rcases has_spec N (by omega) hS hC c with e | ⟨P, A, B, pm', f', g', e, hCU, hix⟩
  · rw [e]; simp only [Option.bind_some]; rw [if_pos trivial]; exact ⟨_, _, _, _, _, _, _, _, rfl, hC⟩
  · have h1 := hCU.pos.1
    have hP := hCU.pos.2.1
    have fin : ∀ r0 : Int32, ∃ r p1 a1 b1 rt1 pm1 f1 g1, some (r0, nI P, nI A, nI B, nI P, pm', f', g') = some (r, p1, a1, b1, rt1, pm1, f1, g1) ∧ CUR p1 a1 b1 rt1 pm1 f1 g1 pts ah := fun r0 => ⟨_, _, _, _, _, _, _, _, rfl, Or.inr ⟨P, A, B, hCU⟩⟩
    rw [e]; simp only [Option.bind_some]; rw [if_neg (by decide)]
    obtain ⟨-, -, -, -, hp, h5, -, hA, hB, hf, hg, -⟩ := id hCU
    obtain ⟨d, -, -, -, -, ed⟩ := noSquareA N (by omega) P hp h5 hP g' hg
    obtain ⟨o, eo⟩ := told100 hN h1 hP (nI A) (nI B)
    rw [jOfM N P A B h1 hP hA hB f' hf, splitM N P A B h1 hP hA hB, ed, eo]
    simp only [modE N h1 hP, Option.bind_some]
    repeat' split
    all_goals exact fin _
theorem map36 {N : Nat} (hN : 2 ^ 64 ≤ N) {P : Nat} (h1 : 1 ≤ P) (hP : P ≤ 10007) (u13 u14 d u15 u16 : Int32) (as bs f g : Nat → Int32) (hd : ¬ (d < 0 ∨ 24 ≤ d.toNatClampNeg)) : ∃ o, mi_run (mX6_map_b36 N (nI P) u13 d as u14 bs u15 u16 f g) N 1 = some o ∧ ∀ r, o = .inr r → ∃ z, r = (z, nI P, u13, u14, u15, u16, f, g) := by
  obtain ⟨o, ho, q⟩ := mi_run_ok (mX6_map_b36 N (nI P) u13 d as u14 bs u15 u16 f g) (fun s => ∃ k, k ≤ P + 1 ∧ s = nI k) (fun o => ∀ r, o = .inr r → ∃ z, r = (z, nI P, u13, u14, u15, u16, f, g)) (fun s => P + 2 - s.toNatClampNeg) (by
    rintro _ ⟨k, hk, rfl⟩
    dsimp only [mX6_map_b36]
    by_cases c : P ≤ k
    · right; rw [if_pos ((nI_le_iff (by omega) (by omega)).mpr c)]; exact ⟨_, rfl, fun r hr => by cases hr⟩
    · rw [if_neg (fun h => c ((nI_le_iff (by omega) (by omega)).mp h))]
      have hmu : P + 2 - (nI (k + 1)).toNatClampNeg < P + 2 - (nI k).toNatClampNeg := by rw [nI_clamp (by omega), nI_clamp (by omega)]; omega
      simp only [mulE N h1 hP, powE hN h1 hP, Option.bind_some, mi_let, nI_1, if_neg hd]
      repeat' split
      · right; exact ⟨_, rfl, fun r hr => ⟨_, (Sum.inr.inj hr).symm⟩⟩
      all_goals (left; exact ⟨_, rfl, ⟨k + 1, by omega, rfl⟩, hmu⟩)) N 1 ⟨1, by omega, rfl⟩ (by show P + 2 - _ < N; omega)
  exact ⟨o, ho, q⟩
theorem T_map {N : Nat} (hN : 2 ^ 64 ≤ N) {cu : Int32} {ps as bs : Nat → Int32} (hS : ST cu ps as bs) {p a b rt pm : Int32} {f g pts ah : Nat → Int32} (hC : CUR p a b rt pm f g pts ah) (c : Int32) (d : Int32) : ∃ r p1 a1 b1 rt1 pm1 f1 g1, mX6_map N p a b rt pm cu f g ps as bs c d = some (r, p1, a1, b1, rt1, pm1, f1, g1) ∧ CUR p1 a1 b1 rt1 pm1 f1 g1 pts ah := by
  unfold mX6_map
  rcases has_spec N (by omega) hS hC d with e | ⟨P, A, B, pm', f', g', e, hCU, hix⟩
  · rw [e]; simp only [Option.bind_some]; rw [if_pos trivial]; exact ⟨_, _, _, _, _, _, _, _, rfl, hC⟩
  · rw [e]; simp only [Option.bind_some]; rw [if_neg (by decide)]
    have hC2 : CUR (nI P) (nI A) (nI B) (nI P) pm' f' g' pts ah := Or.inr ⟨P, A, B, hCU⟩
    rcases has_spec N (by omega) hS hC2 c with e2 | ⟨P2, A2, B2, pm2, f2, g2, e2, hCU2, hix2⟩
    · rw [e2]; simp only [Option.bind_some]; rw [if_pos trivial]; exact ⟨_, _, _, _, _, _, _, _, rfl, hC2⟩
    · rw [e2]; simp only [Option.bind_some]; rw [if_neg (by decide), if_neg hix]
      have fin : ∀ r0 : Int32, ∃ r p1 a1 b1 rt1 pm1 f1 g1, some (r0, nI P2, nI A2, nI B2, nI P2, pm2, f2, g2) = some (r, p1, a1, b1, rt1, pm1, f1, g1) ∧ CUR p1 a1 b1 rt1 pm1 f1 g1 pts ah := fun r0 => ⟨_, _, _, _, _, _, _, _, rfl, Or.inr ⟨P2, A2, B2, hCU2⟩⟩
      obtain ⟨o, eo, hq⟩ := map36 hN hCU2.pos.1 hCU2.pos.2.1 (nI A2) (nI B2) d (nI P2) pm2 as bs f2 g2 hix
      dsimp only [mi_let]
      rw [eo]; simp only [Option.bind_some]
      split
      · rcases o with y | r
        · exact fin _
        · obtain ⟨z, hz⟩ := hq r rfl
          subst hz; exact fin _
      · exact fin _
theorem near21 {N : Nat} (hN : 2 ^ 64 ≤ N) {P : Nat} (h1 : 1 ≤ P) (hP : P ≤ 10007) (u3 u4 u5 u6 x : Int32) (f g : Nat → Int32) : ∃ o, mi_run (mX6_near_b21 N (nI P) u3 u4 g u5 u6 f) N (x, 0) = some o ∧ ∀ r, o = .inr r → ∃ z, r = (z, nI P, u3, u4, u5, u6, f, g) := by
  obtain ⟨o, ho, q⟩ := mi_run_ok (mX6_near_b21 N (nI P) u3 u4 g u5 u6 f) (fun s => ∃ k, k ≤ P + 1 ∧ s.2 = nI k) (fun o => ∀ r, o = .inr r → ∃ z, r = (z, nI P, u3, u4, u5, u6, f, g)) (fun s => P + 2 - s.2.toNatClampNeg) (by
    rintro ⟨x, y⟩ ⟨k, hk, e⟩
    have e : y = nI k := e
    subst e
    dsimp only [mX6_near_b21]
    by_cases c : P ≤ k
    · right; rw [if_pos ((nI_le_iff (by omega) (by omega)).mpr c)]; exact ⟨_, rfl, fun r hr => by cases hr⟩
    · rw [if_neg (fun h => c ((nI_le_iff (by omega) (by omega)).mp h))]
      have hmu : P + 2 - (nI (k + 1)).toNatClampNeg < P + 2 - (nI k).toNatClampNeg := by rw [nI_clamp (by omega), nI_clamp (by omega)]; omega
      simp only [rightE N h1 hP, rightIx N h1 hP, Option.bind_some, mi_let, if_false, nI_1]
      repeat' split
      all_goals first
        | (refine Or.inl ⟨_, rfl, ?_⟩; exact ⟨⟨k + 1, by omega, rfl⟩, hmu⟩)
        | (refine Or.inr ⟨_, rfl, ?_⟩; exact fun r hr => ⟨_, (Sum.inr.inj hr).symm⟩)) N (x, 0) ⟨0, by omega, rfl⟩ (by show P + 2 - _ < N; omega)
  exact ⟨o, ho, q⟩
theorem T_near {N : Nat} (hN : 2 ^ 64 ≤ N) {cu : Int32} {ps as bs : Nat → Int32} (hS : ST cu ps as bs) {p a b rt pm : Int32} {f g pts ah : Nat → Int32} (hC : CUR p a b rt pm f g pts ah) (c : Int32) (x : Int32) : ∃ r p1 a1 b1 rt1 pm1 f1 g1, mX6_near N p a b rt pm cu f g ps as bs c x = some (r, p1, a1, b1, rt1, pm1, f1, g1) ∧ CUR p1 a1 b1 rt1 pm1 f1 g1 pts ah := by
  unfold mX6_near
  rcases has_spec N (by omega) hS hC c with e | ⟨P, A, B, pm', f', g', e, hCU, hix⟩
  · rw [e]; simp only [Option.bind_some]; rw [if_pos trivial]; exact ⟨_, _, _, _, _, _, _, _, rfl, hC⟩
  · have h1 := hCU.pos.1
    have hP := hCU.pos.2.1
    have fin : ∀ r0 : Int32, ∃ r p1 a1 b1 rt1 pm1 f1 g1, some (r0, nI P, nI A, nI B, nI P, pm', f', g') = some (r, p1, a1, b1, rt1, pm1, f1, g1) ∧ CUR p1 a1 b1 rt1 pm1 f1 g1 pts ah := fun r0 => ⟨_, _, _, _, _, _, _, _, rfl, Or.inr ⟨P, A, B, hCU⟩⟩
    rw [e]; simp only [Option.bind_some]; rw [if_neg (by decide)]
    rw [modE N h1 hP]; simp only [Option.bind_some]
    obtain ⟨o, eo, hq⟩ := near21 hN h1 hP (nI A) (nI B) (nI P) pm' (nI (modF P x.toInt64)) f' g'
    rw [eo]; simp only [Option.bind_some]
    rcases o with y | r
    · exact fin _
    · obtain ⟨z, hz⟩ := hq r rfl
      subst hz; exact fin _
theorem emb30 {N : Nat} (hN : 2 ^ 64 ≤ N) {n : Nat} (hn : 2 ≤ n) (hn2 : n ≤ 20000) (u2 u3 u4 u5 u6 : Int32) (f g : Nat → Int32) : ∃ o, mi_run (mX6_embedding_b30 N (nI n) u2 u3 u4 u5 u6 f g) N (1, 1) = some o ∧ ∀ r, o = .inr r → ∃ z, r = (z, u2, u3, u4, u5, u6, f, g) := by
  obtain ⟨o, ho, q⟩ := mi_run_ok (mX6_embedding_b30 N (nI n) u2 u3 u4 u5 u6 f g) (fun s => ∃ k, k ≤ n + 1 ∧ s.2 = nI k) (fun o => ∀ r, o = .inr r → ∃ z, r = (z, u2, u3, u4, u5, u6, f, g)) (fun s => n + 2 - s.2.toNatClampNeg) (by
    rintro ⟨x, y⟩ ⟨k, hk, e⟩
    have e : y = nI k := e
    subst e
    have hz : ¬ (nI n).toInt64 = 0 := by
      rw [nI_l (by omega)]; intro h
      have := (lN_eq (a := n) (b := 0) (by omega) (by omega)).mp h
      omega
    dsimp only [mX6_embedding_b30, mi_let]
    by_cases c : n < k
    · right; rw [if_pos (nI_lt c (by omega))]; exact ⟨_, rfl, fun r hr => by cases hr⟩
    · rw [if_neg (nI_nlt (by omega) (by omega)), if_neg hz]
      have hmu : n + 2 - (nI (k + 1)).toNatClampNeg < n + 2 - (nI k).toNatClampNeg := by rw [nI_clamp (by omega), nI_clamp (by omega)]; omega
      simp only [nI_1]
      repeat' split
      all_goals first
        | (refine Or.inl ⟨_, rfl, ?_⟩; exact ⟨⟨k + 1, by omega, rfl⟩, hmu⟩)
        | (refine Or.inr ⟨_, rfl, ?_⟩; exact fun r hr => ⟨_, (Sum.inr.inj hr).symm⟩)) N (1, 1) ⟨1, by omega, rfl⟩ (by show n + 2 - _ < N; omega)
  exact ⟨o, ho, q⟩
theorem in_nat {x : Int32} {lo hi : Nat} {l h : Int64} (el : l.toInt = lo) (eh : h.toInt = hi) (q : ¬ inF x.toInt64 l h = 0) : ∃ n, lo ≤ n ∧ n ≤ hi ∧ x = nI n := by
  have hi' := inF_1 q
  have k1 := Int64.le_iff_toInt_le.mp hi'.1
  have k2 := Int64.le_iff_toInt_le.mp hi'.2
  rw [Int32.toInt_toInt64, el] at k1
  rw [Int32.toInt_toInt64, eh] at k2
  exact ⟨x.toInt.toNat, by omega, by omega, i32_toNat (by omega)⟩
theorem T_embedding {N : Nat} (hN : 2 ^ 64 ≤ N) {cu : Int32} {ps as bs : Nat → Int32} (hS : ST cu ps as bs) {p a b rt pm : Int32} {f g pts ah : Nat → Int32} (hC : CUR p a b rt pm f g pts ah) (c : Int32) (x : Int32) : ∃ r p1 a1 b1 rt1 pm1 f1 g1, mX6_embedding N p a b rt pm cu f g ps as bs c x = some (r, p1, a1, b1, rt1, pm1, f1, g1) ∧ CUR p1 a1 b1 rt1 pm1 f1 g1 pts ah := by
  unfold mX6_embedding
  rcases has_spec N (by omega) hS hC c with e | ⟨P, A, B, pm', f', g', e, hCU, hix⟩
  · rw [e]; simp only [Option.bind_some]; rw [if_pos trivial]; exact ⟨_, _, _, _, _, _, _, _, rfl, hC⟩
  · have h1 := hCU.pos.1
    have hP := hCU.pos.2.1
    have fin : ∀ r0 : Int32, ∃ r p1 a1 b1 rt1 pm1 f1 g1, some (r0, nI P, nI A, nI B, nI P, pm', f', g') = some (r, p1, a1, b1, rt1, pm1, f1, g1) ∧ CUR p1 a1 b1 rt1 pm1 f1 g1 pts ah := fun r0 => ⟨_, _, _, _, _, _, _, _, rfl, Or.inr ⟨P, A, B, hCU⟩⟩
    rw [e]; simp only [Option.bind_some]; rw [if_neg (by decide)]
    rw [inE]; simp only [Option.bind_some]
    by_cases q : inF x.toInt64 2 20000 = 0
    · rw [if_pos q]; exact fin _
    · rw [if_neg q]
      obtain ⟨n, hn, hn2, rfl⟩ := in_nat (lo := 2) (hi := 20000) (by decide) (by decide) q
      obtain ⟨o, eo, hq⟩ := emb30 hN hn hn2 (nI P) (nI A) (nI B) (nI P) pm' f' g'
      rw [eo]; simp only [Option.bind_some]
      rcases o with y | r
      · exact fin _
      · obtain ⟨z, hz⟩ := hq r rfl
        subst hz; exact fin _
theorem T_alone {N : Nat} (hN : 2 ^ 64 ≤ N) {cu : Int32} {ps as bs : Nat → Int32} (hS : ST cu ps as bs) {p a b rt pm : Int32} {f g pts ah : Nat → Int32} (hC : CUR p a b rt pm f g pts ah) (c : Int32) (x : Int32) (y : Int64) : ∃ r p1 a1 b1 rt1 pm1 f1 g1, mX6_alone N p a b rt pm cu f g ps as bs c x y = some (r, p1, a1, b1, rt1, pm1, f1, g1) ∧ CUR p1 a1 b1 rt1 pm1 f1 g1 pts ah := by
  unfold mX6_alone
  rcases has_spec N (by omega) hS hC c with e | ⟨P, A, B, pm', f', g', e, hCU, hix⟩
  · rw [e]; simp only [Option.bind_some]; rw [if_pos trivial]; exact ⟨_, _, _, _, _, _, _, _, rfl, hC⟩
  · have h1 := hCU.pos.1
    have hP := hCU.pos.2.1
    have fin : ∀ r0 : Int32, ∃ r p1 a1 b1 rt1 pm1 f1 g1, some (r0, nI P, nI A, nI B, nI P, pm', f', g') = some (r, p1, a1, b1, rt1, pm1, f1, g1) ∧ CUR p1 a1 b1 rt1 pm1 f1 g1 pts ah := fun r0 => ⟨_, _, _, _, _, _, _, _, rfl, Or.inr ⟨P, A, B, hCU⟩⟩
    rw [e]; simp only [Option.bind_some]; rw [if_neg (by decide)]
    obtain ⟨-, -, -, -, hp, h5, -, hA, hB, hf, hg, -⟩ := id hCU
    obtain ⟨d, -, dP, -, -, ed⟩ := noSquareA N (by omega) P hp h5 hP g' hg
    obtain ⟨A2, B2, pm2, f2, g2, et, hCU2⟩ := turn_spec N (by omega) hCU
    have fin2 : ∀ r0 : Int32, ∃ r p1 a1 b1 rt1 pm1 f1 g1, some (r0, nI P, nI A2, nI B2, nI P, pm2, f2, g2) = some (r, p1, a1, b1, rt1, pm1, f1, g1) ∧ CUR p1 a1 b1 rt1 pm1 f1 g1 pts ah := fun r0 => ⟨_, _, _, _, _, _, _, _, rfl, Or.inr ⟨P, A2, B2, hCU2⟩⟩
    have hdx : (nI d < 0 ∨ 10008 ≤ (nI d).toNatClampNeg) = False := eq_false (ix_nI (by omega) (by omega))
    rw [ed, et]
    simp only [mulE N h1 hP, modE N h1 hP, rightE N h1 hP, sumE N h1 hP, multE hN h1 hP, powE hN h1 hP, negE, isPE N h1 hP, inE, modIx h1 hP, rightIx N h1 hP, Option.bind_some, mi_let, if_false, leastE hN h1 hP, hdx]
    repeat' split
    all_goals first | exact fin _ | exact fin2 _
