/-! made, on the reference's side -/
theorem placeJ {N P A B : Nat} (hp : isp P) (h5 : 5 ≤ P) (hP : P ≤ 10007) (cb : cnt P A B P ≤ 10298) {t q : Nat → Int32} (hL : LK P A B P t q) {j : Nat} (hj : j < cnt P A B P) : mX6_placeOf N t q (t j) = some (nI j) := by
  unfold mX6_placeOf
  by_cases j0 : j = 0
  · subst j0; rw [hL.1, if_pos rfl]; rfl
  · obtain ⟨x, r, hx, hr, jb, z⟩ := blk2 (by omega) hL P (Nat.le_refl _) j (by omega) hj
    have rP := hr.1
    have od := pr_odd hp h5
    have hcx := cnt_mono P A B (k := x) (l := P) (by omega)
    rcases z with ⟨ej, pj⟩ | ⟨r0, ej, pj, pl⟩
    · rw [pj, if_neg (pt_ne (by omega) (by omega))]
      dsimp only [mi_let]
      rw [(pt_split (x := x) (y := r) (by omega) (by omega)).1, if_neg (ix_nI (k := x) (n := 10008) (by omega) (by omega)), nI_clamp (by omega), (hL.2 x hx).1, if_neg (ix_nI (k := cnt P A B x) (n := 10300) (by omega) (by omega)), nI_clamp (by omega), ← ej, pj, if_pos rfl]
    · rw [pj, if_neg (pt_ne (by omega) (by omega))]
      dsimp only [mi_let]
      rw [(pt_split (x := x) (y := P - r) (by omega) (by omega)).1, if_neg (ix_nI (k := x) (n := 10008) (by omega) (by omega)), nI_clamp (by omega), (hL.2 x hx).1, if_neg (ix_nI (k := cnt P A B x) (n := 10300) (by omega) (by omega)), nI_clamp (by omega), pl, if_neg (fun z => by
        have := (nI_eq (by omega) (by omega)).mp z
        omega), nI_1, ← ej]
theorem W_inj {N : Nat} {F : Type} [mFld F] {P A B : Nat} {φ : Int → F} (hc : CX F P A B φ) (cb : cnt P A B P ≤ 10298) {t q : Nat → Int32} (hL : LK P A B P t q) {W : Nat → EP (φ A) (φ B)} (hW : ∀ j, j < cnt P A B P → pe P φ (t j) (W j).1) {i j : Nat} (hi : i < cnt P A B P) (hj : j < cnt P A B P) (e : W i = W j) : i = j := by
  have h1 := hW i hi
  rw [e] at h1
  have h2 := pe_inj hc.1 h1 (hW j hj)
  have p1 := placeJ (N := N) hc.2.1 hc.2.2.1 hc.2.2.2.1 cb hL hi
  have p2 := placeJ (N := N) hc.2.1 hc.2.2.1 hc.2.2.2.1 cb hL hj
  rw [h2, p2] at p1
  exact ((nI_eq (by omega) (by omega)).mp (Option.some.inj p1)).symm
/-- the greatest order, and the first point that has it -/
theorem made35' {N : Nat} (hN : 2 ^ 64 ≤ N) {F : Type} [mFld F] {P A B : Nat} {φ : Int → F} (hc : CX F P A B φ) {rt : Int32} {f g pts ah : Nat → Int32} (h : CU P A B (nI P) (nI A) (nI B) rt (nI (cnt P A B P)) f g pts ah) {W : Nat → EP (φ A) (φ B)} (hW : ∀ j, j < cnt P A B P → pe P φ (pts j) (W j).1) : ∃ M j k, mi_run (mX6_made_b35 N (nI P) (nI A) (nI B) f g) N (0, -1, 0, nI (cnt P A B P), pts, ah) = some (nI M, pts j, k, nI (cnt P A B P), pts, ah) ∧ j < cnt P A B P ∧ isOrd (gO hc) ez M (W j) ∧ (∀ i o, i < j → isOrd (gO hc) ez o (W i) → o < M) ∧ ∀ i o, i < cnt P A B P → isOrd (gO hc) ez o (W i) → o ≤ M := by
  have cb := cnt_b h
  have ab := gO_ab hc
  have ob : ∀ {i o}, i < cnt P A B P → isOrd (gO hc) ez o (W i) → o ≤ 10298 := fun {i o} hi oo => by
    have := Nat.le_of_dvd cb.1 ((ord_dvd ab oo _).mp (cx_lagr hc (W i)))
    omega
  obtain ⟨⟨o1, o2, o3, o4, o5, o6⟩, eo, M, j, e1, e2, e4, e5, e6, hj, oj, lt, le⟩ := mi_run_ok (mX6_made_b35 N (nI P) (nI A) (nI B) f g) (fun s => ∃ k, k ≤ cnt P A B P ∧ s.2.2.1 = nI k ∧ s.2.2.2.1 = nI (cnt P A B P) ∧ s.2.2.2.2.1 = pts ∧ s.2.2.2.2.2 = ah ∧ ((k = 0 ∧ s.1 = nI 0) ∨ ∃ M j, s.1 = nI M ∧ s.2.1 = pts j ∧ j < k ∧ isOrd (gO hc) ez M (W j) ∧ (∀ i o, i < j → isOrd (gO hc) ez o (W i) → o < M) ∧ ∀ i o, i < k → isOrd (gO hc) ez o (W i) → o ≤ M)) (fun s => ∃ M j, s.1 = nI M ∧ s.2.1 = pts j ∧ s.2.2.2.1 = nI (cnt P A B P) ∧ s.2.2.2.2.1 = pts ∧ s.2.2.2.2.2 = ah ∧ j < cnt P A B P ∧ isOrd (gO hc) ez M (W j) ∧ (∀ i o, i < j → isOrd (gO hc) ez o (W i) → o < M) ∧ ∀ i o, i < cnt P A B P → isOrd (gO hc) ez o (W i) → o ≤ M) (fun s => 20000 - s.2.2.1.toNatClampNeg) (by
    rintro ⟨x1, x2, x3, x4, x5, x6⟩ ⟨k, hk, e3, e4, e5, e6, q⟩
    have e3 : x3 = nI k := e3
    have e4 : x4 = nI (cnt P A B P) := e4
    have e5 : x5 = pts := e5
    have e6 : x6 = ah := e6
    have q : (k = 0 ∧ x1 = nI 0) ∨ ∃ M j, x1 = nI M ∧ x2 = pts j ∧ j < k ∧ isOrd (gO hc) ez M (W j) ∧ (∀ i o, i < j → isOrd (gO hc) ez o (W i) → o < M) ∧ ∀ i o, i < k → isOrd (gO hc) ez o (W i) → o ≤ M := q
    subst e3 e4 e5 e6
    dsimp only [mX6_made_b35, mi_let]
    by_cases c : cnt P A B P ≤ k
    · right
      rw [if_pos (nI_le c (by omega))]
      rcases q with ⟨z, -⟩ | ⟨M, j, e1, e2, jk, oj, lt, le⟩
      · omega
      · exact ⟨_, rfl, M, j, e1, e2, rfl, rfl, rfl, by omega, oj, lt, fun i o hi => le i o (by omega)⟩
    · left
      have hkc : k < cnt P A B P := by omega
      obtain ⟨o, oo⟩ := cx_ord hc (W k)
      have obk := ob hkc oo
      have o0 := oo.1
      have ix := ix_nI (k := k) (n := 10300) (by omega) (by omega)
      have dn : 20000 - (nI k + 1).toNatClampNeg < 20000 - k := by rw [nI_1, nI_clamp (by omega)]; omega
      rw [nI_clamp (by omega)] at ix
      rw [if_neg (nI_ge (by omega) (by omega)), nI_clamp (by omega), if_neg ix, ordK hc hN h (hW k hkc) oo]; simp only [Option.bind_some]
      rcases q with ⟨z, e1⟩ | ⟨M, j, e1, e2, jk, oj, lt, le⟩
      · subst z e1
        have nle : ¬ nI o ≤ nI 0 := nI_ge (a := 0) o0 (by omega)
        rw [if_neg nle, if_neg ix, if_neg nle]
        refine ⟨_, rfl, ⟨1, by omega, rfl, rfl, rfl, rfl, Or.inr ⟨o, 0, rfl, rfl, by omega, oo, fun i o hi => by omega, fun i o' hi oo' => ?_⟩⟩, dn⟩
        have : i = 0 := by omega
        subst this
        exact Nat.le_of_eq (ord_uniq ab oo' oo)
      · subst e1
        have Mb := ob (by omega) oj
        by_cases ol : o ≤ M
        · have le2 : nI o ≤ nI M := nI_le ol (by omega)
          rw [if_pos le2, if_pos le2]
          refine ⟨_, rfl, ⟨k + 1, by omega, nI_1 k, rfl, rfl, rfl, Or.inr ⟨M, j, rfl, e2, by omega, oj, lt, fun i o' hi oo' => ?_⟩⟩, dn⟩
          by_cases ik : i = k
          · subst ik; rw [ord_uniq ab oo' oo]; exact ol
          · exact le i o' (by omega) oo'
        · have nle : ¬ nI o ≤ nI M := nI_ge (by omega) (by omega)
          rw [if_neg nle, if_neg ix, if_neg nle]
          refine ⟨_, rfl, ⟨k + 1, by omega, nI_1 k, rfl, rfl, rfl, Or.inr ⟨o, k, rfl, rfl, by omega, oo, fun i o' hi oo' => ?_, fun i o' hi oo' => ?_⟩⟩, dn⟩
          · have := le i o' hi oo'; omega
          · by_cases ik : i = k
            · subst ik; exact Nat.le_of_eq (ord_uniq ab oo' oo)
            · have := le i o' (by omega) oo'; omega) N (0, -1, 0, nI (cnt P A B P), pts, ah) ⟨0, by omega, rfl, rfl, rfl, rfl, Or.inl ⟨rfl, rfl⟩⟩ (by show 20000 - _ < N; omega)
  have e1 : o1 = _ := e1
  have e2 : o2 = _ := e2
  have e4 : o4 = _ := e4
  have e5 : o5 = _ := e5
  have e6 : o6 = _ := e6
  rw [e1, e2, e4, e5, e6] at eo
  exact ⟨M, j, o3, eo, hj, oj, lt, le⟩
theorem made133' {N : Nat} (hN : 2 ^ 64 ≤ N) {M : Nat} (hM : M ≤ 10298) (mk : Nat → Int32) : ∃ o, mi_run (mX6_made_b133 N (nI M)) N (0, mk) = some o ∧ ∀ j, j < M → o.2 j = 0 := by
  refine mi_run_ok (mX6_made_b133 N (nI M)) (fun s => ∃ k, k ≤ M ∧ s.1 = nI k ∧ ∀ j, j < k → s.2 j = 0) _ (fun s => 20000 - s.1.toNatClampNeg) ?_ N (0, mk) ⟨0, by omega, rfl, fun j hj => by omega⟩ (by show 20000 - _ < N; omega)
  rintro ⟨x1, x2⟩ ⟨k, hk, e1, hz⟩
  have e1 : x1 = nI k := e1
  have hz : ∀ j, j < k → x2 j = 0 := hz
  subst e1
  dsimp only [mX6_made_b133, mi_let]
  by_cases c : M ≤ k
  · right
    rw [if_pos (nI_le c (by omega))]
    exact ⟨_, rfl, fun j hj => hz j (by omega)⟩
  · left
    rw [if_neg (nI_ge (by omega) (by omega)), if_neg (ix_nI (by omega) (by omega)), nI_clamp (by omega)]
    refine ⟨_, rfl, ⟨k + 1, by omega, nI_1 k, fun j hj => ?_⟩, ?_⟩
    · show upd x2 k _ j = 0
      unfold upd
      by_cases jk : j = k
      · rw [if_pos jk]; decide
      · rw [if_neg jk]; exact hz j (by omega)
    · show 20000 - (nI k + 1).toNatClampNeg < 20000 - k
      rw [nI_1, nI_clamp (by omega)]; omega
/-- the multiples of the first point are marked -/
theorem made162' {N : Nat} (hN : 2 ^ 64 ≤ N) {F : Type} [mFld F] {P A B : Nat} {φ : Int → F} (hc : CX F P A B φ) (cb : cnt P A B P ≤ 10298) {f pts ah : Nat → Int32} (hf : invOK P f) (hL : LK P A B P pts ah) {W : Nat → EP (φ A) (φ B)} (hW : ∀ j, j < cnt P A B P → pe P φ (pts j) (W j).1) (al : isAll ((List.range (cnt P A B P)).map W)) {u : Int32} {U : EP (φ A) (φ B)} (hu : pe P φ u U.1) {O : Nat} (oU : isOrd (gO hc) ez O U) (Ob : O ≤ 10298) {mk : Nat → Int32} (hz : ∀ j, j < cnt P A B P → mk j = 0) : ∃ o, mi_run (mX6_made_b162 N (nI O) pts ah (nI P) (nI A) f u) N (-1, 0, mk) = some o ∧ ∀ j, j < cnt P A B P → (o.2.2 j ≠ 0 ↔ mult (gO hc) ez U (W j)) := by
  have ab := gO_ab hc
  have hc0 := hc
  obtain ⟨hF, hp, h5, hP, hA, hB, -⟩ := hc0
  refine mi_run_ok (mX6_made_b162 N (nI O) pts ah (nI P) (nI A) f u) (fun s => ∃ i, i ≤ O ∧ s.2.1 = nI i ∧ pe P φ s.1 (gm (gO hc) ez i U).1 ∧ ∀ j, j < cnt P A B P → (s.2.2 j ≠ 0 ↔ ∃ i', i' < i ∧ W j = gm (gO hc) ez i' U)) _ (fun s => 20000 - s.2.1.toNatClampNeg) ?_ N (-1, 0, mk) ⟨0, by omega, rfl, Or.inl ⟨rfl, rfl⟩, fun j hj => ⟨fun z => absurd (hz j hj) z, fun ⟨i', hi', _⟩ => by omega⟩⟩ (by show 20000 - _ < N; omega)
  rintro ⟨x1, x2, x3⟩ ⟨i, hi, e2, p1, hm⟩
  have e2 : x2 = nI i := e2
  have p1 : pe P φ x1 (gm (gO hc) ez i U).1 := p1
  have hm : ∀ j, j < cnt P A B P → (x3 j ≠ 0 ↔ ∃ i', i' < i ∧ W j = gm (gO hc) ez i' U) := hm
  subst e2
  dsimp only [mX6_made_b162, mi_let]
  by_cases c : O ≤ i
  · right
    rw [if_pos (nI_le c (by omega))]
    refine ⟨_, rfl, fun j hj => (hm j hj).trans ⟨fun ⟨i', _, e⟩ => ⟨i', e⟩, fun m => ?_⟩⟩
    obtain ⟨i', hi', e⟩ := mult_lt ab oU m
    exact ⟨i', by omega, e⟩
  · left
    obtain ⟨j0, hj0, ej⟩ := List.mem_map.mp (al.2 (gm (gO hc) ez i U))
    have hj0 := List.mem_range.mp hj0
    have ex : x1 = pts j0 := by
      have := hW j0 hj0
      rw [ej] at this
      exact pe_inj hF p1 this
    have p2 := p1
    obtain ⟨w, ew, pw⟩ := sumRe hc N hf p1 hu
    rw [if_neg (nI_ge (by omega) (by omega)), ex, placeJ hp h5 hP cb hL hj0]; simp only [Option.bind_some]
    rw [if_neg (ix_nI (by omega) (by omega)), nI_clamp (by omega), ← ex, ew]; simp only [Option.bind_some]
    refine ⟨_, rfl, ⟨i + 1, by omega, nI_1 i, pw, fun j hj => ?_⟩, ?_⟩
    · show upd x3 j0 _ j ≠ 0 ↔ _
      unfold upd
      by_cases jj : j = j0
      · subst jj
        rw [if_pos rfl]
        exact ⟨fun _ => ⟨i, by omega, ej⟩, fun _ => by decide⟩
      · rw [if_neg jj, hm j hj]
        constructor
        · rintro ⟨i', hi', e⟩; exact ⟨i', by omega, e⟩
        · rintro ⟨i', hi', e⟩
          by_cases ii : i' = i
          · subst ii
            exact absurd (W_inj (N := N) hc cb hL hW hj hj0 (e.trans ej.symm)) jj
          · exact ⟨i', by omega, e⟩
    · show 20000 - (nI i + 1).toNatClampNeg < 20000 - (nI i).toNatClampNeg
      rw [nI_1, nI_clamp (by omega), nI_clamp (by omega)]; omega
