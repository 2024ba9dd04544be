/-! logarithms -/
theorem logR {F : Type} [mFld F] {P A B : Nat} {φ : Int → F} (hc : CX F P A B φ) {N : Nat} (hN : 2 ^ 64 ≤ N) {f : Nat → Int32} (hf : invOK P f) {u t : Int32} {U T : EP (φ A) (φ B)} (hu : pe P φ u U.1) (ht : pe P φ t T.1) {n : Nat} (ho : isOrd (gO hc) ez n U) (hn : n ≤ 10300) (u4 u5 u6 : Int32) (g : Nat → Int32) : ∃ o, mi_run (mX6_log_b33 N t (nI P) (nI A) u4 u5 u6 f g u) N (-1, 0) = some o ∧ (match o with | .inl _ => isLog (gO hc) ez U T (-1) | .inr y => ∃ w, y = (w, nI P, nI A, u4, u5, u6, f, g) ∧ isLog (gO hc) ez U T w) := by
  have ab := gO_ab hc
  have hP := hc.2.2.2.1
  refine mi_run_ok (mX6_log_b33 N t (nI P) (nI A) u4 u5 u6 f g u) (fun s => ∃ i, s.2 = nI i ∧ i < n ∧ pe P φ s.1 (gm (gO hc) ez i U).1 ∧ ∀ j, j < i → gm (gO hc) ez j U ≠ T) _ (fun s => 15000 - s.2.toNatClampNeg) ?_ N (-1, 0) ⟨0, rfl, ho.1, Or.inl ⟨rfl, rfl⟩, fun j hj => absurd hj (by omega)⟩ (by show 15000 - _ < N; omega)
  rintro ⟨x1, x2⟩ ⟨i, e1, hi, px, no⟩
  have e1' : x2 = nI i := e1
  subst e1'
  have px' : pe P φ x1 (gm (gO hc) ez i U).1 := px
  dsimp only [mX6_log_b33, mi_let]
  by_cases c : x1 = t
  · right
    rw [if_pos c]
    subst c
    refine ⟨_, rfl, _, rfl, Or.inr ⟨i, n, ho, hi, rfl, Subtype.ext (pe_un hP px' ht)⟩⟩
  · rw [if_neg c]
    have ne : gm (gO hc) ez i U ≠ T := fun z => c (pe_inj hc.1 (W := T.1) (by rw [← z]; exact px') ht)
    have no' : ∀ j, j < i + 1 → gm (gO hc) ez j U ≠ T := fun j hj => by
      by_cases z : j = i
      · rw [z]; exact ne
      · exact no j (by omega)
    obtain ⟨w, ew, pw⟩ := sumRe hc N hf px' hu
    have sm : gO hc (gm (gO hc) ez i U) U = gm (gO hc) ez (i + 1) U := by rw [gm_add ab, gm_1 ab]
    rw [sm] at pw
    rw [ew]; simp only [Option.bind_some]
    by_cases c2 : w = -1
    · right
      rw [if_pos c2]
      refine ⟨_, rfl, Or.inl ⟨rfl, fun m => ?_⟩⟩
      have z : gm (gO hc) ez (i + 1) U = ez := Subtype.ext ((pe_none hP pw).mp c2)
      have : i + 1 = n := Classical.byContradiction fun q => ho.2.2 (i + 1) (by omega) (by omega) z
      obtain ⟨k, kn, hk⟩ := mult_lt ab ho m
      exact no' k (by omega) hk.symm
    · left
      rw [if_neg c2]
      refine ⟨_, rfl, ⟨i + 1, nI_1 i, ?_, pw, no'⟩, ?_⟩
      · refine Classical.byContradiction fun q => c2 ((pe_none hP pw).mpr ?_)
        rw [show i + 1 = n by omega, ho.2.1]; rfl
      · show 15000 - (nI i + 1).toNatClampNeg < 15000 - (nI i).toNatClampNeg
        rw [nI_1, nI_clamp (by omega), nI_clamp (by omega)]; omega
theorem V_log {N : Nat} (hN : 2 ^ 64 ≤ N) {P A B : Nat} {p a b rt pm cu : Int32} {f g pts ah ps as bs : Nat → Int32} {c : Int32} {pm1 : Int32} {f1 g1 : Nat → Int32} (hh : mX6_has N p a b rt pm cu f g ps as bs c = some (1, nI P, nI A, nI B, nI P, pm1, f1, g1)) (hU : CU P A B (nI P) (nI A) (nI B) (nI P) pm1 f1 g1 pts ah) {pr : Int32} {gl : Nat → Int32} (ht : tabC pr gl) {q : Int32} (hq : q = 0 ∨ q = nI (cnt P A B P)) (hd : disc P A B ≠ 0) {od re bk : Int32} {st en0 : Nat → Int32} (hs : SD re st en0) (u v : Int32) : ∃ r pr1 gl1 od1 re1 bk1 st1 en1 q1, mX5_log_s N pr gl od re bk st en0 (nI P) (nI A) (nI B) q c u v = some (r, pr1, gl1, od1, re1, bk1, st1, en1, q1) ∧ tabC pr1 gl1 ∧ SD re1 st1 en1 ∧ (q1 = 0 ∨ q1 = nI (cnt P A B P)) ∧ mX6_log N p a b rt pm cu f g ps as bs c u v = some (r, nI P, nI A, nI B, nI P, pm1, f1, g1) := by
  obtain ⟨h1, hP, h5, hp, hA, hB⟩ := hU.pos
  unfold mX5_log_s mX6_log
  rw [hh]; simp only [Option.bind_some]; rw [if_neg (show ¬ (1 : Int32) = 0 by decide)]
  rcases holds2 N h1 hP hA hB u with ⟨k, e1, e2⟩ | ⟨e1, e2⟩
  · rw [e1, e2]; simp only [Option.bind_some]; rw [if_neg (show ¬ (1 : Int32) = 0 by decide), if_neg (show ¬ (1 : Int32) = 0 by decide)]
    rcases holds2 N h1 hP hA hB v with ⟨k', e1, e2⟩ | ⟨e1, e2⟩
    · rw [e1, e2]; simp only [Option.bind_some]; rw [if_neg (show ¬ (1 : Int32) = 0 by decide), if_neg (show ¬ (1 : Int32) = 0 by decide)]
      obtain ⟨pr1, gl1, e, t⟩ := sizeC (N := N) (by omega) h5 hP hA hB ht hq
      obtain ⟨F, i, φ, hc⟩ := cx_ex hp h5 hP hA hB hd
      obtain ⟨U, hu⟩ := isPt_pe hc k
      obtain ⟨V, hv⟩ := isPt_pe hc k'
      have cb := cnt_b hU
      obtain ⟨o, ho, od, eo⟩ := owC hc hN hu (n := cnt P A B P) cb.1 (by omega) (cx_lagr hc U)
      have ol := Nat.le_of_dvd cb.1 od
      obtain ⟨r, back, st1, en1, el, hL, hb⟩ := lay_ok hc hN hs hu (nI o)
      obtain ⟨w, ew, lw⟩ := stepsTo_ok hc hN ho (by omega) hL hb hv
      obtain ⟨o', eo', ho'⟩ := logR hc hN hU.invs hu hv ho (by omega) (nI B) (nI P) pm1 g1
      unfold mX3_logarithm
      rw [e]; simp only [Option.bind_some]; rw [eo]; simp only [Option.bind_some]; rw [el]; simp only [Option.bind_some]; rw [ew, eo']; simp only [Option.bind_some]
      rcases o' with ⟨y1, y2⟩ | y
      · have := isLog_un (gO_ab hc) lw ho'
        subst this
        exact ⟨_, _, _, _, _, _, _, _, _, rfl, t, hL.sd, Or.inr rfl, rfl⟩
      · obtain ⟨w', e3, l3⟩ := ho'
        have := isLog_un (gO_ab hc) lw l3
        subst this e3
        exact ⟨_, _, _, _, _, _, _, _, _, rfl, t, hL.sd, Or.inr rfl, rfl⟩
    · rw [e1, e2]; exact ⟨_, _, _, _, _, _, _, _, _, rfl, ht, hs, hq, rfl⟩
  · rw [e1, e2]; exact ⟨_, _, _, _, _, _, _, _, _, rfl, ht, hs, hq, rfl⟩
