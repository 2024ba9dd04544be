/-- a point of order I of which no multiple but the neutral one is a multiple of U -/
def t2P {F : Type} [mFld F] {P A B : Nat} {φ : Int → F} (hc : CX F P A B φ) (I : Nat) (U V : EP (φ A) (φ B)) : Prop := isOrd (gO hc) ez I V ∧ ∀ k, 0 < k → k < I → ¬ mult (gO hc) ez U (gm (gO hc) ez k V)
theorem t2_sym {F : Type} [mFld F] {P A B : Nat} {φ : Int → F} (hc : CX F P A B φ) {I O : Nat} {U : EP (φ A) (φ B)} (oU : isOrd (gO hc) ez O U) (V : EP (φ A) (φ B)) (h : t2P hc I U (en V)) : t2P hc I U V := by
  have ab := gO_ab hc
  refine ⟨ord_iv ab h.1, fun k k0 kI m => h.2 k k0 kI ?_⟩
  exact sub_iv ab oU k m
theorem apR {N : Nat} (hN : 2 ^ 64 ≤ N) {F : Type} [mFld F] {P A B : Nat} {φ : Int → F} (hc : CX F P A B φ) (cb : cnt P A B P ≤ 10298) {f pts ah : Nat → Int32} (hf : invOK P f) (hL : LK P A B P pts ah) {W : Nat → EP (φ A) (φ B)} (hW : ∀ j, j < cnt P A B P → pe P φ (pts j) (W j).1) (al : isAll ((List.range (cnt P A B P)).map W)) {U : EP (φ A) (φ B)} {mk : Nat → Int32} (hm : ∀ j, j < cnt P A B P → (mk j ≠ 0 ↔ mult (gO hc) ez U (W j))) {v : Int32} {V : EP (φ A) (φ B)} (hv : pe P φ v V.1) {I : Nat} (I0 : 0 < I) (Ib : I ≤ 10298) : ((∀ k, 0 < k → k < I → ¬ mult (gO hc) ez U (gm (gO hc) ez k V)) ∧ mX6_isApart N (nI P) (nI A) f pts ah mk v (nI I) = some 1) ∨ (¬ (∀ k, 0 < k → k < I → ¬ mult (gO hc) ez U (gm (gO hc) ez k V)) ∧ mX6_isApart N (nI P) (nI A) f pts ah mk v (nI I) = some 0) := by
  have ab := gO_ab hc
  have hc0 := hc
  obtain ⟨hF, hp, h5, hP, hA, hB, -⟩ := hc0
  obtain ⟨⟨o1, o2, o3⟩, eo, ho⟩ := mi_run_ok (mX6_isApart_b8 N (nI I) pts ah mk (nI P) (nI A) f v) (fun s => ∃ k, 0 < k ∧ k ≤ I ∧ s.2.2 = nI k ∧ pe P φ s.1 (gm (gO hc) ez k V).1 ∧ ((s.2.1 = 1 ∧ ∀ i, 0 < i → i < k → ¬ mult (gO hc) ez U (gm (gO hc) ez i V)) ∨ (s.2.1 = 0 ∧ ∃ i, 0 < i ∧ i < I ∧ mult (gO hc) ez U (gm (gO hc) ez i V)))) (fun s => (s.2.1 = 1 ∧ ∀ i, 0 < i → i < I → ¬ mult (gO hc) ez U (gm (gO hc) ez i V)) ∨ (s.2.1 = 0 ∧ ∃ i, 0 < i ∧ i < I ∧ mult (gO hc) ez U (gm (gO hc) ez i V))) (fun s => 20000 - s.2.2.toNatClampNeg) (by
    rintro ⟨x1, x2, x3⟩ ⟨k, k0, kI, e3, p1, q⟩
    have e3 : x3 = nI k := e3
    have p1 : pe P φ x1 (gm (gO hc) ez k V).1 := p1
    have q : (x2 = 1 ∧ ∀ i, 0 < i → i < k → ¬ mult (gO hc) ez U (gm (gO hc) ez i V)) ∨ (x2 = 0 ∧ ∃ i, 0 < i ∧ i < I ∧ mult (gO hc) ez U (gm (gO hc) ez i V)) := q
    subst e3
    dsimp only [mX6_isApart_b8, mi_let]
    rcases q with ⟨rfl, no⟩ | ⟨rfl, ye⟩
    · by_cases c : I ≤ k
      · right
        rw [if_pos (nI_le c (by omega))]
        exact ⟨_, rfl, Or.inl ⟨rfl, fun i i0 iI => no i i0 (by omega)⟩⟩
      · left
        have dn : 20000 - (nI k + 1).toNatClampNeg < 20000 - (nI k).toNatClampNeg := by rw [nI_1, nI_clamp (by omega), nI_clamp (by omega)]; omega
        obtain ⟨j0, hj0, ej⟩ := List.mem_map.mp (al.2 (gm (gO hc) ez k V))
        have hj0 := List.mem_range.mp hj0
        have ex : x1 = pts j0 := by
          have := hW j0 hj0
          rw [ej] at this
          exact pe_inj hF p1 this
        have m0 := hm j0 hj0
        rw [ej] at m0
        obtain ⟨w, ew, pw⟩ := sumRe hc N hf p1 hv
        rw [if_neg (nI_ge (by omega) (by omega)), if_neg (show ¬ (1 : Int32) = 0 by decide), ex, placeJ hp h5 hP cb hL hj0]; simp only [Option.bind_some]
        have ix := ix_nI (k := j0) (n := 10300) (by omega) (by omega)
        rw [if_neg ix, nI_clamp (n := j0) (by omega), ← ex, ew]; simp only [Option.bind_some]
        by_cases z : mk j0 = 0
        · rw [if_pos z]
          refine ⟨_, rfl, ⟨k + 1, by omega, by omega, nI_1 k, pw, Or.inl ⟨rfl, fun i i0 ik m => ?_⟩⟩, dn⟩
          by_cases e : i = k
          · subst e; exact m0.mpr m z
          · exact no i i0 (by omega) m
        · rw [if_neg z]
          exact ⟨_, rfl, ⟨k + 1, by omega, by omega, nI_1 k, pw, Or.inr ⟨rfl, k, k0, by omega, m0.mp z⟩⟩, dn⟩
    · right
      by_cases c : I ≤ k
      · rw [if_pos (nI_le c (by omega))]
        exact ⟨_, rfl, Or.inr ⟨rfl, ye⟩⟩
      · rw [if_neg (nI_ge (by omega) (by omega)), if_pos rfl]
        exact ⟨_, rfl, Or.inr ⟨rfl, ye⟩⟩) N (v, 1, 1) ⟨1, by omega, by omega, rfl, by rw [gm_1 ab]; exact hv, Or.inl ⟨rfl, fun i i0 i1 => by omega⟩⟩ (by show 20000 - _ < N; omega)
  have ho : (o2 = 1 ∧ ∀ i, 0 < i → i < I → ¬ mult (gO hc) ez U (gm (gO hc) ez i V)) ∨ (o2 = 0 ∧ ∃ i, 0 < i ∧ i < I ∧ mult (gO hc) ez U (gm (gO hc) ez i V)) := ho
  unfold mX6_isApart
  rw [eo]; simp only [Option.bind_some]
  rcases ho with ⟨rfl, no⟩ | ⟨rfl, i, i0, iI, m⟩
  · left; rw [if_pos (by decide)]; exact ⟨no, rfl⟩
  · right; rw [if_pos (by decide)]; exact ⟨fun z => z i i0 iI m, rfl⟩
theorem made199' {N : Nat} (hN : 2 ^ 64 ≤ N) {F : Type} [mFld F] {P A B : Nat} {φ : Int → F} (hc : CX F P A B φ) {rt : Int32} {f g pts ah : Nat → Int32} (h : CU P A B (nI P) (nI A) (nI B) rt (nI (cnt P A B P)) f g pts ah) (hL : LK P A B P pts ah) {W : Nat → EP (φ A) (φ B)} (hW : ∀ j, j < cnt P A B P → pe P φ (pts j) (W j).1) (al : isAll ((List.range (cnt P A B P)).map W)) {U : EP (φ A) (φ B)} {mk : Nat → Int32} (hm : ∀ j, j < cnt P A B P → (mk j ≠ 0 ↔ mult (gO hc) ez U (W j))) {I : Nat} (I0 : 0 < I) (Ib : I ≤ 10298) (u5 : Int32) : ∃ o, mi_run (mX6_made_b199 N (nI P) (nI A) (nI B) f g (nI I) mk u5) N (0, nI (cnt P A B P), pts, ah) = some o ∧ (match o with | .inl s => (∀ i, i < cnt P A B P → ¬ t2P hc I U (W i)) ∧ s.2.1 = nI (cnt P A B P) ∧ s.2.2.1 = pts ∧ s.2.2.2 = ah | .inr z => ∃ j, j < cnt P A B P ∧ t2P hc I U (W j) ∧ (∀ i, i < j → ¬ t2P hc I U (W i)) ∧ z = (pts j, nI P, nI A, nI B, u5, nI (cnt P A B P), f, g, pts, ah, mk)) := by
  have cb := cnt_b h
  have ab := gO_ab hc
  refine mi_run_ok (mX6_made_b199 N (nI P) (nI A) (nI B) f g (nI I) mk u5) (fun s => ∃ k, k ≤ cnt P A B P ∧ s.1 = nI k ∧ s.2.1 = nI (cnt P A B P) ∧ s.2.2.1 = pts ∧ s.2.2.2 = ah ∧ ∀ i, i < k → ¬ t2P hc I U (W i)) _ (fun s => 20000 - s.1.toNatClampNeg) ?_ N (0, nI (cnt P A B P), pts, ah) ⟨0, by omega, rfl, rfl, rfl, rfl, fun i hi => by omega⟩ (by show 20000 - _ < N; omega)
  rintro ⟨x1, x2, x3, x4⟩ ⟨k, hk, e1, e2, e3, e4, no⟩
  have e1 : x1 = nI k := e1
  have e2 : x2 = nI (cnt P A B P) := e2
  have e3 : x3 = pts := e3
  have e4 : x4 = ah := e4
  subst e1 e2 e3 e4
  dsimp only [mX6_made_b199, mi_let]
  by_cases c : cnt P A B P ≤ k
  · right
    rw [if_pos (nI_le c (by omega))]
    exact ⟨_, rfl, fun i hi => no i (by omega), rfl, rfl, rfl⟩
  · have hkc : k < cnt P A B P := by omega
    have ix := ix_nI (k := k) (n := 10300) (by omega) (by omega)
    rw [nI_clamp (by omega)] at ix
    have dn : 20000 - (nI k + 1).toNatClampNeg < 20000 - k := by rw [nI_1, nI_clamp (by omega)]; omega
    obtain ⟨o, oo⟩ := cx_ord hc (W k)
    have ob : o ≤ 10298 := by
      have := Nat.le_of_dvd cb.1 ((ord_dvd ab oo _).mp (cx_lagr hc (W k)))
      omega
    rw [if_neg (nI_ge (by omega) (by omega)), nI_clamp (by omega), if_neg ix, ordK hc hN h (hW k hkc) oo]; simp only [Option.bind_some]
    by_cases d : o = I
    · subst d
      rw [if_pos rfl, if_neg ix]
      rcases apR hN hc (by omega) h.invs hL hW al hm (hW k hkc) I0 Ib with ⟨y, e⟩ | ⟨y, e⟩
      · right
        rw [e]; simp only [Option.bind_some]; rw [if_neg (show ¬ (1 : Int32) = 0 by decide), if_neg ix]
        exact ⟨_, rfl, k, hkc, ⟨oo, y⟩, no, rfl⟩
      · left
        rw [e]; simp only [Option.bind_some]; rw [if_pos trivial]
        refine ⟨_, rfl, ⟨k + 1, by omega, nI_1 k, rfl, rfl, rfl, fun i hi => ?_⟩, dn⟩
        by_cases ik : i = k
        · subst ik; exact fun z => y z.2
        · exact no i (by omega)
    · left
      rw [if_neg (fun z => d ((nI_eq (by omega) (by omega)).mp z))]
      refine ⟨_, rfl, ⟨k + 1, by omega, nI_1 k, rfl, rfl, rfl, fun i hi => ?_⟩, dn⟩
      by_cases ik : i = k
      · subst ik; exact fun z => d (ord_uniq ab oo z.1)
      · exact no i (by omega)
