/-! calls that count -/
theorem sizeC {N : Nat} (hN : 20000 ≤ N) {P A B : Nat} (h5 : 5 ≤ P) (hP : P ≤ 10007) (hA : A < P) (hB : B < P) {pr : Int32} {gl : Nat → Int32} (ht : tabC pr gl) {q : Int32} (hq : q = 0 ∨ q = nI (cnt P A B P)) : ∃ pr1 gl1, mX3_sizeOf N pr gl (nI P) (nI A) (nI B) q = some (nI (cnt P A B P), pr1, gl1, nI (cnt P A B P)) ∧ tabC pr1 gl1 := by
  unfold mX3_sizeOf
  have c1 := cnt_pos P A B P
  have c2 := cnt_le P A B P
  rcases hq with rfl | rfl
  · rw [if_pos rfl]
    obtain ⟨pr1, gl1, e, t⟩ := manyPoints_spec N hN P h5 hP A B hA hB pr gl ht
    rw [e]; exact ⟨pr1, gl1, rfl, t⟩
  · rw [if_neg (nI_ne0 (by omega) (by omega))]
    exact ⟨pr, gl, rfl, ht⟩
theorem V_count {N : Nat} (hN : 2 ^ 64 ≤ N) {P A B : Nat} {p a b rt pm cu : Int32} {f g pts ah ps as bs : Nat → Int32} {c : Int32} {pm1 : Int32} {f1 g1 : Nat → Int32} (hh : mX6_has N p a b rt pm cu f g ps as bs c = some (1, nI P, nI A, nI B, nI P, pm1, f1, g1)) (hU : CU P A B (nI P) (nI A) (nI B) (nI P) pm1 f1 g1 pts ah) {pr : Int32} {gl : Nat → Int32} (ht : tabC pr gl) {q : Int32} (hq : q = 0 ∨ q = nI (cnt P A B P)) : ∃ r pr1 gl1 q1, mX5_count_s N pr gl (nI P) (nI A) (nI B) q c = some (r, pr1, gl1, q1) ∧ tabC pr1 gl1 ∧ (q1 = 0 ∨ q1 = nI (cnt P A B P)) ∧ ∃ pm2 pts1 ah1, mX6_count N p a b rt pm cu f g pts ah ps as bs c = some (r, nI P, nI A, nI B, nI P, pm2, f1, g1, pts1, ah1) ∧ CU P A B (nI P) (nI A) (nI B) (nI P) pm2 f1 g1 pts1 ah1 := by
  obtain ⟨h1, hP, h5, hp, hA, hB⟩ := hU.pos
  unfold mX5_count_s mX6_count
  obtain ⟨pr1, gl1, e, t⟩ := sizeC (N := N) (by omega) h5 hP hA hB ht hq
  obtain ⟨pts1, ah1, el, hC, -⟩ := listE N (by omega) hU
  rw [hh]; simp only [Option.bind_some]; rw [if_neg (show ¬ (1 : Int32) = 0 by decide)]
  rw [e, el]
  exact ⟨_, _, _, _, rfl, t, Or.inr rfl, _, _, _, rfl, hC⟩
theorem V_supersingular {N : Nat} (hN : 2 ^ 64 ≤ N) {P A B : Nat} {p a b rt pm cu : Int32} {f g pts ah ps as bs : Nat → Int32} {c : Int32} {pm1 : Int32} {f1 g1 : Nat → Int32} (hh : mX6_has N p a b rt pm cu f g ps as bs c = some (1, nI P, nI A, nI B, nI P, pm1, f1, g1)) (hU : CU P A B (nI P) (nI A) (nI B) (nI P) pm1 f1 g1 pts ah) {pr : Int32} {gl : Nat → Int32} (ht : tabC pr gl) {q : Int32} (hq : q = 0 ∨ q = nI (cnt P A B P)) : ∃ r pr1 gl1 q1, mX5_supersingular_s N pr gl (nI P) (nI A) (nI B) q c = some (r, pr1, gl1, q1) ∧ tabC pr1 gl1 ∧ (q1 = 0 ∨ q1 = nI (cnt P A B P)) ∧ ∃ pm2 pts1 ah1, mX6_supersingular N p a b rt pm cu f g pts ah ps as bs c = some (r, nI P, nI A, nI B, nI P, pm2, f1, g1, pts1, ah1) ∧ CU P A B (nI P) (nI A) (nI B) (nI P) pm2 f1 g1 pts1 ah1 := by
  obtain ⟨h1, hP, h5, hp, hA, hB⟩ := hU.pos
  unfold mX5_supersingular_s mX6_supersingular
  obtain ⟨pr1, gl1, e, t⟩ := sizeC (N := N) (by omega) h5 hP hA hB ht hq
  obtain ⟨pts1, ah1, el, hC, -⟩ := listE N (by omega) hU
  rw [hh]; simp only [Option.bind_some]; rw [if_neg (show ¬ (1 : Int32) = 0 by decide)]
  rw [e, el]; simp only [Option.bind_some]; rw [if_neg (nz_nI h1 hP), if_neg (nz_nI h1 hP)]; dsimp only [mi_let]
  by_cases k : mi_rem (nI P + 1 - nI (cnt P A B P)) (nI P) = 0
  · rw [if_pos k, if_pos k]; exact ⟨_, _, _, _, rfl, t, Or.inr rfl, _, _, _, rfl, hC⟩
  · rw [if_neg k, if_neg k]; exact ⟨_, _, _, _, rfl, t, Or.inr rfl, _, _, _, rfl, hC⟩
theorem V_order {N : Nat} (hN : 2 ^ 64 ≤ N) {P A B : Nat} {p a b rt pm cu : Int32} {f g pts ah ps as bs : Nat → Int32} {c : Int32} {pm1 : Int32} {f1 g1 : Nat → Int32} (hh : mX6_has N p a b rt pm cu f g ps as bs c = some (1, nI P, nI A, nI B, nI P, pm1, f1, g1)) (hU : CU P A B (nI P) (nI A) (nI B) (nI P) pm1 f1 g1 pts ah) {pr : Int32} {gl : Nat → Int32} (ht : tabC pr gl) {q : Int32} (hq : q = 0 ∨ q = nI (cnt P A B P)) (hd : disc P A B ≠ 0) (u : Int32) : ∃ r pr1 gl1 q1, mX5_order_s N pr gl (nI P) (nI A) (nI B) q c u = some (r, pr1, gl1, q1) ∧ tabC pr1 gl1 ∧ (q1 = 0 ∨ q1 = nI (cnt P A B P)) ∧ ∃ pm2 pts1 ah1, mX6_order N p a b rt pm cu f g pts ah ps as bs c u = some (r, nI P, nI A, nI B, nI P, pm2, f1, g1, pts1, ah1) ∧ CU P A B (nI P) (nI A) (nI B) (nI P) pm2 f1 g1 pts1 ah1 := by
  obtain ⟨h1, hP, h5, hp, hA, hB⟩ := hU.pos
  unfold mX5_order_s mX6_order
  rw [hh]; simp only [Option.bind_some]; rw [if_neg (show ¬ (1 : Int32) = 0 by decide)]
  rcases holds2 N h1 hP hA hB u with ⟨k, e1, e2⟩ | ⟨e1, e2⟩
  · rw [e1, e2]; simp only [Option.bind_some]; rw [if_neg (show ¬ (1 : Int32) = 0 by decide), if_neg (show ¬ (1 : Int32) = 0 by decide)]
    obtain ⟨pr1, gl1, e, t⟩ := sizeC (N := N) (by omega) h5 hP hA hB ht hq
    obtain ⟨F, i, φ, hc⟩ := cx_ex hp h5 hP hA hB hd
    obtain ⟨W, hu⟩ := isPt_pe hc k
    have cb := cnt_b hU
    obtain ⟨o, ho, -, eo⟩ := owC hc hN hu (n := cnt P A B P) cb.1 (by omega) (cx_lagr hc W)
    obtain ⟨pts1, ah1, el, hC, -⟩ := orderR hc hN hU hu ho
    rw [e, el]; simp only [Option.bind_some]; rw [eo]
    exact ⟨_, _, _, _, rfl, t, Or.inr rfl, _, _, _, rfl, hC⟩
  · rw [e1, e2]; exact ⟨_, _, _, _, rfl, ht, hq, _, _, _, rfl, hU⟩
theorem in_ix {x : Int32} {lo hi : Int64} : inF x.toInt64 lo hi = 0 ↔ ¬ (lo.toInt ≤ x.toInt ∧ x.toInt ≤ hi.toInt) := by
  have k : (lo ≤ x.toInt64 ∧ x.toInt64 ≤ hi) ↔ (lo.toInt ≤ x.toInt ∧ x.toInt ≤ hi.toInt) := by rw [Int64.le_iff_toInt_le, Int64.le_iff_toInt_le, Int32.toInt_toInt64]
  unfold inF
  by_cases c : lo ≤ x.toInt64 ∧ x.toInt64 ≤ hi
  · rw [if_pos c]; exact ⟨fun z => absurd z (by decide), fun z => absurd (k.mp c) z⟩
  · rw [if_neg c]; exact ⟨fun _ z => c (k.mpr z), fun _ => rfl⟩
def coIt (v u : Int64) : Nat → Int64 × Int64 × Int64 → Int64 × Int64 × Int64
  | 0, s => s
  | k + 1, s => coIt v u k (s.2.1, v * s.2.1 - u * s.1, s.2.2 * u)
theorem coC {N : Nat} (hN : 2 ^ 64 ≤ N) {n : Nat} (n1 : 1 ≤ n) (hn : n ≤ 4) (v : Int64) (u : Int32) (x y z : Int64) : ∃ o, mi_run (mX5_countOver_s_b61 N (nI n) v u) N (x, y, z, 1) = some o ∧ (o.1, o.2.1, o.2.2.1) = coIt v u.toInt64 (n - 1) (x, y, z) := by
  refine mi_run_ok (mX5_countOver_s_b61 N (nI n) v u) (fun s => ∃ k, 1 ≤ k ∧ k ≤ n ∧ s.2.2.2 = nI k ∧ coIt v u.toInt64 (n - k) (s.1, s.2.1, s.2.2.1) = coIt v u.toInt64 (n - 1) (x, y, z)) _ (fun s => 10 - s.2.2.2.toNatClampNeg) ?_ N (x, y, z, 1) ⟨1, by omega, by omega, rfl, rfl⟩ (by show 10 - _ < N; omega)
  rintro ⟨x, y, z, w⟩ ⟨k, hk, hk2, e, hi⟩
  have e : w = nI k := e
  subst e
  dsimp only [mX5_countOver_s_b61, mi_let]
  by_cases c : n ≤ k
  · right; rw [if_pos (nI_le c (by omega))]
    refine ⟨_, rfl, ?_⟩
    rw [show n - k = 0 by omega] at hi; exact hi
  · left
    rw [if_neg (nI_ge (by omega) (by omega))]
    refine ⟨_, rfl, ⟨k + 1, by omega, by omega, nI_1 k, ?_⟩, ?_⟩
    · rw [← hi, show n - k = (n - (k + 1)) + 1 by omega]; rfl
    · show 10 - (nI k + 1).toNatClampNeg < 10 - (nI k).toNatClampNeg
      rw [nI_1, nI_clamp (by omega), nI_clamp (by omega)]; omega
theorem coR {N : Nat} (hN : 2 ^ 64 ≤ N) {n : Nat} (n1 : 1 ≤ n) (hn : n ≤ 4) (v : Int64) (u : Int32) (x y z : Int64) : ∃ o, mi_run (mX6_countOver_b60 N (nI n) v u) N (x, y, z, 2) = some o ∧ (o.1, o.2.1, o.2.2.1) = coIt v u.toInt64 (n - 1) (x, y, z) := by
  refine mi_run_ok (mX6_countOver_b60 N (nI n) v u) (fun s => ∃ k, 2 ≤ k ∧ k ≤ n + 1 ∧ s.2.2.2 = nI k ∧ coIt v u.toInt64 (n + 1 - k) (s.1, s.2.1, s.2.2.1) = coIt v u.toInt64 (n - 1) (x, y, z)) _ (fun s => 10 - s.2.2.2.toNatClampNeg) ?_ N (x, y, z, 2) ⟨2, by omega, by omega, rfl, rfl⟩ (by show 10 - _ < N; omega)
  rintro ⟨x, y, z, w⟩ ⟨k, hk, hk2, e, hi⟩
  have e : w = nI k := e
  subst e
  dsimp only [mX6_countOver_b60, mi_let]
  by_cases c : n < k
  · right; rw [if_pos (nI_lt c (by omega))]
    refine ⟨_, rfl, ?_⟩
    rw [show n + 1 - k = 0 by omega] at hi; exact hi
  · left
    rw [if_neg (nI_nlt (by omega) (by omega))]
    refine ⟨_, rfl, ⟨k + 1, by omega, by omega, nI_1 k, ?_⟩, ?_⟩
    · rw [← hi, show n + 1 - k = (n + 1 - (k + 1)) + 1 by omega]; rfl
    · show 10 - (nI k + 1).toNatClampNeg < 10 - (nI k).toNatClampNeg
      rw [nI_1, nI_clamp (by omega), nI_clamp (by omega)]; omega
theorem V_countOver {N : Nat} (hN : 2 ^ 64 ≤ N) {P A B : Nat} {p a b rt pm cu : Int32} {f g pts ah ps as bs : Nat → Int32} {c : Int32} {pm1 : Int32} {f1 g1 : Nat → Int32} (hh : mX6_has N p a b rt pm cu f g ps as bs c = some (1, nI P, nI A, nI B, nI P, pm1, f1, g1)) (hU : CU P A B (nI P) (nI A) (nI B) (nI P) pm1 f1 g1 pts ah) {pr : Int32} {gl : Nat → Int32} (ht : tabC pr gl) {q : Int32} (hq : q = 0 ∨ q = nI (cnt P A B P)) (x : Int32) : ∃ r pr1 gl1 q1, mX5_countOver_s N pr gl (nI P) (nI A) (nI B) q c x = some (r, pr1, gl1, q1) ∧ tabC pr1 gl1 ∧ (q1 = 0 ∨ q1 = nI (cnt P A B P)) ∧ ∃ pm2 pts1 ah1, mX6_countOver N p a b rt pm cu f g pts ah ps as bs c x = some (r, nI P, nI A, nI B, nI P, pm2, f1, g1, pts1, ah1) ∧ CU P A B (nI P) (nI A) (nI B) (nI P) pm2 f1 g1 pts1 ah1 := by
  obtain ⟨h1, hP, h5, hp, hA, hB⟩ := hU.pos
  unfold mX5_countOver_s mX6_countOver
  rw [hh]; simp only [Option.bind_some]; rw [if_neg (show ¬ (1 : Int32) = 0 by decide)]
  rw [inE]; simp only [Option.bind_some]
  have i1 : (1 : Int64).toInt = 1 := by decide
  have i4 : (4 : Int64).toInt = 4 := by decide
  by_cases k : inF x.toInt64 1 4 = 0
  · rw [if_pos k]
    rw [in_ix, i1, i4] at k
    by_cases k1 : x < 1
    · rw [if_pos k1]; exact ⟨_, _, _, _, rfl, ht, hq, _, _, _, rfl, hU⟩
    · rw [if_neg k1, if_neg (fun w => k ⟨?_, ?_⟩)]
      · exact ⟨_, _, _, _, rfl, ht, hq, _, _, _, rfl, hU⟩
      · have := Int32.le_iff_toInt_le.mp (Int32.not_lt.mp k1); exact this
      · have := Int32.le_iff_toInt_le.mp w; exact this
  · rw [if_neg k]
    obtain ⟨n, hn, hn2, rfl⟩ := in_nat (lo := 1) (hi := 4) (by decide) (by decide) k
    obtain ⟨pr1, gl1, e, t⟩ := sizeC (N := N) (by omega) h5 hP hA hB ht hq
    obtain ⟨pts1, ah1, el, hC, -⟩ := listE N (by omega) hU
    have cb := cnt_b hU
    rw [if_neg (show ¬ nI n < 1 from nI_nlt (b := 1) hn (by omega)), if_pos (show nI n ≤ 4 from nI_le (b := 4) hn2 (by omega)), e, el]; simp only [Option.bind_some]; dsimp only [mi_let]
    have v1 : (nI P + 1 - nI (cnt P A B P)).toInt64 = (nI P).toInt64 + 1 - (nI (cnt P A B P)).toInt64 := by
      have a1 : ((nI P).toInt64 + 1).toInt = (P : Int) + 1 := by rw [Int64.toInt_add, nIl_toInt (by omega), i1, Int.bmod_eq_of_le (by omega) (by omega)]
      apply Int64.toInt_inj.mp
      rw [Int32.toInt_toInt64, Int64.toInt_sub, a1, nIl_toInt (by omega), nI_1, Int32.toInt_sub, nI_toInt (by omega), nI_toInt (by omega), Int.bmod_eq_of_le (by omega) (by omega), Int.bmod_eq_of_le (by omega) (by omega)]
      omega
    rw [v1]
    obtain ⟨⟨o1, o2, o3, o4⟩, eo, ho⟩ := coC hN hn hn2 ((nI P).toInt64 + 1 - (nI (cnt P A B P)).toInt64) (nI P) 2 ((nI P).toInt64 + 1 - (nI (cnt P A B P)).toInt64) (nI P).toInt64
    obtain ⟨⟨w1, w2, w3, w4⟩, ew, hw⟩ := coR hN hn hn2 ((nI P).toInt64 + 1 - (nI (cnt P A B P)).toInt64) (nI P) 2 ((nI P).toInt64 + 1 - (nI (cnt P A B P)).toInt64) (nI P).toInt64
    have hh2 := ho.trans hw.symm
    have q2 : o2 = w2 := congrArg (fun s => s.2.1) hh2
    have q3 : o3 = w3 := congrArg (fun s => s.2.2) hh2
    subst q2 q3
    rw [eo, ew]
    exact ⟨_, _, _, _, rfl, t, Or.inr rfl, _, _, _, rfl, hC⟩
