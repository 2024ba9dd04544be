theorem hvR {N : Nat} (hN : 2 ^ 64 ≤ N) {F : Type} [mFld F] {P A B : Nat} {φ : Int → F} (hc : CX F P A B φ) {f pts : Nat → Int32} (hf : invOK P f) {W : Nat → EP (φ A) (φ B)} (hW : ∀ j, j < cnt P A B P → pe P φ (pts j) (W j).1) {u : Int32} {U : EP (φ A) (φ B)} (hu : pe P φ u U.1) {j : Nat} (hj : j < cnt P A B P) : ∃ w, mX6_sum N (nI P) (nI A) f (pts j) (pts j) = some w ∧ (w = u ↔ gO hc (W j) (W j) = U) := by
  obtain ⟨w, e, pw⟩ := sumRe hc N hf (hW j hj) (hW j hj)
  refine ⟨w, e, ?_⟩
  constructor
  · intro z
    rw [z] at pw
    exact Subtype.ext (pe_un hc.2.2.2.1 pw hu)
  · intro z
    rw [z] at pw
    exact pe_inj hc.1 pw hu
theorem hvR28 {N : Nat} (hN : 2 ^ 64 ≤ N) {F : Type} [mFld F] {P A B : Nat} {φ : Int → F} (hc : CX F P A B φ) {f pts : Nat → Int32} (hf : invOK P f) {W : Nat → EP (φ A) (φ B)} (hW : ∀ j, j < cnt P A B P → pe P φ (pts j) (W j).1) {u : Int32} {U : EP (φ A) (φ B)} (hu : pe P φ u U.1) (cb : cnt P A B P ≤ 10298) : ∃ o, mi_run (mX6_halves_b28 N (nI (cnt P A B P)) pts (nI P) (nI A) f u) N (0, 0) = some o ∧ o.1 = nI (ctN (fun j => gO hc (W j) (W j) = U) (cnt P A B P)) := by
  have hv := fun j (hj : j < cnt P A B P) => hvR hN hc hf hW hu hj
  generalize eT : (fun j => gO hc (W j) (W j) = U) = T at *
  refine mi_run_ok (mX6_halves_b28 N (nI (cnt P A B P)) pts (nI P) (nI A) f u) (fun s => ∃ k, k ≤ cnt P A B P ∧ s.2 = nI k ∧ s.1 = nI (ctN T k)) _ (fun s => 20000 - s.2.toNatClampNeg) ?_ N (0, 0) ⟨0, by omega, rfl, rfl⟩ (by show 20000 - _ < N; omega)
  rintro ⟨x1, x2⟩ ⟨k, hk, e2, e1⟩
  have e1 : x1 = nI (ctN T k) := e1
  have e2 : x2 = nI k := e2
  subst e1 e2
  dsimp only [mX6_halves_b28, mi_let]
  by_cases c : cnt P A B P ≤ k
  · right; rw [if_pos (nI_le c (by omega))]
    have : k = cnt P A B P := by omega
    subst this
    exact ⟨_, rfl, rfl⟩
  · left
    have dn : 20000 - (nI k + 1).toNatClampNeg < 20000 - k := by rw [nI_1, nI_clamp (by omega)]; omega
    obtain ⟨w, s1, s2⟩ := hv k (by omega)
    rw [if_neg (nI_ge (by omega) (by omega)), if_neg (ix_nI (by omega) (by omega)), if_neg (ix_nI (by omega) (by omega)), nI_clamp (by omega), s1]; simp only [Option.bind_some]
    have tk : T k ↔ gO hc (W k) (W k) = U := by rw [← eT]
    by_cases d : w = u
    · rw [if_pos d]
      exact ⟨_, rfl, ⟨k + 1, by omega, nI_1 k, by rw [ctN_y (tk.mpr (s2.mp d))]; exact nI_1 _⟩, dn⟩
    · rw [if_neg d]
      refine ⟨_, rfl, ⟨k + 1, by omega, nI_1 k, ?_⟩, dn⟩
      rw [ctN_n (fun z => d (s2.mpr (tk.mp z)))]
      exact nI_add _ 0
theorem hvR29 {N : Nat} (hN : 2 ^ 64 ≤ N) {F : Type} [mFld F] {P A B : Nat} {φ : Int → F} (hc : CX F P A B φ) {f pts : Nat → Int32} (hf : invOK P f) {W : Nat → EP (φ A) (φ B)} (hW : ∀ j, j < cnt P A B P → pe P φ (pts j) (W j).1) {u : Int32} {U : EP (φ A) (φ B)} (hu : pe P φ u U.1) (cb : cnt P A B P ≤ 10298) (b u5 : Int32) (g ah : Nat → Int32) {I : Nat} (hI : I < 2 ^ 31) : ∃ o, mi_run (mX6_half_b29 N (nI (cnt P A B P)) pts (nI P) (nI A) f u b u5 g ah) N (nI I, 0) = some o ∧ (match o with | .inl _ => ctN (fun j => gO hc (W j) (W j) = U) (cnt P A B P) ≤ I | .inr z => ∃ k, k < cnt P A B P ∧ gO hc (W k) (W k) = U ∧ ctN (fun j => gO hc (W j) (W j) = U) k = I ∧ z = (pts k, nI P, nI A, b, u5, nI (cnt P A B P), f, g, pts, ah)) := by
  have hv := fun j (hj : j < cnt P A B P) => hvR hN hc hf hW hu hj
  have tk : ∀ k, (fun j => gO hc (W j) (W j) = U) k ↔ gO hc (W k) (W k) = U := fun k => Iff.rfl
  generalize eT : (fun j => gO hc (W j) (W j) = U) = T at *
  refine mi_run_ok (mX6_half_b29 N (nI (cnt P A B P)) pts (nI P) (nI A) f u b u5 g ah) (fun s => ∃ k, k ≤ cnt P A B P ∧ s.2 = nI k ∧ ctN T k ≤ I ∧ s.1 = nI (I - ctN T k)) _ (fun s => 20000 - s.2.toNatClampNeg) ?_ N (nI I, 0) ⟨0, by omega, rfl, Nat.zero_le _, rfl⟩ (by show 20000 - _ < N; omega)
  rintro ⟨x1, x2⟩ ⟨k, hk, e2, le, e1⟩
  have e1 : x1 = nI (I - ctN T k) := e1
  have e2 : x2 = nI k := e2
  subst e1 e2
  dsimp only [mX6_half_b29, mi_let]
  by_cases c : cnt P A B P ≤ k
  · right; rw [if_pos (nI_le c (by omega))]
    have : k = cnt P A B P := by omega
    subst this
    exact ⟨_, rfl, le⟩
  · have dn : 20000 - (nI k + 1).toNatClampNeg < 20000 - k := by rw [nI_1, nI_clamp (by omega)]; omega
    obtain ⟨w, s1, s2⟩ := hv k (by omega)
    rw [if_neg (nI_ge (by omega) (by omega)), if_neg (show ¬ nI (I - ctN T k) < 0 from nI_nlt (b := 0) (by omega) (by omega)), if_neg (ix_nI (by omega) (by omega)), if_neg (ix_nI (by omega) (by omega)), nI_clamp (by omega), s1]; simp only [Option.bind_some]
    by_cases d : w = u
    · rw [if_pos d]
      have ty := (tk k).mpr (s2.mp d)
      by_cases z : I - ctN T k = 0
      · right
        have ix := ix_nI (k := k) (n := 10300) (by omega) (by omega)
        rw [nI_clamp (by omega)] at ix
        rw [z, if_pos (show nI 0 = 0 from rfl), if_neg ix]
        exact ⟨_, rfl, k, by omega, s2.mp d, by omega, rfl⟩
      · left
        rw [if_neg (nI_ne0 (by omega) (by omega))]
        refine ⟨_, rfl, ⟨k + 1, by omega, nI_1 k, by rw [ctN_y ty]; omega, ?_⟩, dn⟩
        show nI (I - ctN T k) + (-1) = nI (I - ctN T (k + 1))
        rw [ctN_y ty, nI_zI, nI_zI, show (-1 : Int32) = zI (-1) from rfl, zI_add]
        congr 1; omega
    · left
      have tn : ¬ T k := fun z => d (s2.mpr ((tk k).mp z))
      rw [if_neg d]
      exact ⟨_, rfl, ⟨k + 1, by omega, nI_1 k, by rw [ctN_n tn]; omega, by rw [ctN_n tn]⟩, dn⟩
theorem fh2 {N : Nat} (hN : 2 ^ 64 ≤ N) {F : Type} [mFld F] {P A B : Nat} {φ : Int → F} (hc : CX F P A B φ) {pts ah : Nat → Int32} (hL : LK P A B P pts ah) {W : Nat → EP (φ A) (φ B)} (hW : ∀ j, j < cnt P A B P → pe P φ (pts j) (W j).1) (al : isAll ((List.range (cnt P A B P)).map W)) (few : ∀ q, prm q → kap (gO hc) ez ((List.range (cnt P A B P)).map W) q < q * q * q) (W0 : W 0 = ez) {u : Int32} {U : EP (φ A) (φ B)} (hu : pe P φ u U.1) {pr : Int32} {gl : Nat → Int32} (ht : tabC pr gl) (h0 : Nat → Int32) : ∃ c1 pr1 h1 gl1, mX3_findHalves N pr h0 gl (nI P) (nI A) (nI B) u = some (c1, pr1, h1, gl1) ∧ HI (fun j => gO hc (W j) (W j) = U) pts (cnt P A B P) c1 h1 ∧ tabC pr1 gl1 ∧ ctN (fun j => gO hc (W j) (W j) = U) (cnt P A B P) ≤ 4 := by
  have hP := hc.2.2.2.1
  have h := gO_ab hc
  have b4 : ctN (fun j => gO hc (W j) (W j) = U) (cnt P A B P) ≤ 4 := by
    have := few4 hc al few U
    unfold cN at this
    rw [ctN_fl (fun x => gO hc x x = U) W] at this
    exact this
  have T0 : gO hc (W 0) (W 0) = U ↔ u = -1 := by
    rw [W0, h.2.2.1]
    constructor
    · intro z; exact (pe_none hP hu).mpr (by rw [← z]; rfl)
    · intro z; exact (Subtype.ext ((pe_none hP hu).mp z)).symm
  have H00 : HI (fun j => gO hc (W j) (W j) = U) pts 0 0 h0 := ⟨rfl, fun k hk => absurd hk (by omega)⟩
  unfold mX3_findHalves
  by_cases u0 : u = -1
  · obtain ⟨c', h', k1, k2⟩ := HI_y N H00 (T0.mpr u0) (by show 0 < 4; omega)
    rw [hL.1] at k1
    obtain ⟨⟨o1, o2, o3, o4, o5⟩, e, q1, q2⟩ := fhC hN hc hL hW hu b4 ht k2
    rw [if_pos u0, k1]; simp only [Option.bind_some]; rw [e]
    exact ⟨_, _, _, _, rfl, q1, q2, b4⟩
  · obtain ⟨⟨o1, o2, o3, o4, o5⟩, e, q1, q2⟩ := fhC hN hc hL hW hu b4 ht (HI_n H00 (fun z => u0 (T0.mp z)))
    rw [if_neg u0, e]
    exact ⟨_, _, _, _, rfl, q1, q2, b4⟩
theorem V_halves {N : Nat} (hN : 2 ^ 64 ≤ N) {P A B : Nat} {p a b rt pm cu : Int32} {f g pts ah ps as bs : Nat → Int32} {c : Int32} {pm1 : Int32} {f1 g1 : Nat → Int32} (hh : mX6_has N p a b rt pm cu f g ps as bs c = some (1, nI P, nI A, nI B, nI P, pm1, f1, g1)) (hU : CU P A B (nI P) (nI A) (nI B) (nI P) pm1 f1 g1 pts ah) {pr : Int32} {gl : Nat → Int32} (ht : tabC pr gl) (hd : disc P A B ≠ 0) (h0 : Nat → Int32) (u : Int32) : ∃ r pr1 gl1 h1, mX5_halves_s N pr gl h0 (nI P) (nI A) (nI B) c u = some (r, pr1, gl1, h1) ∧ tabC pr1 gl1 ∧ ∃ pm2 pts1 ah1, mX6_halves N p a b rt pm cu f g pts ah ps as bs c u = some (r, nI P, nI A, nI B, nI P, pm2, f1, g1, pts1, ah1) ∧ CU P A B (nI P) (nI A) (nI B) (nI P) pm2 f1 g1 pts1 ah1 := by
  obtain ⟨h1, hP, h5, hp, hA, hB⟩ := hU.pos
  unfold mX5_halves_s mX6_halves
  rw [hh]; simp only [Option.bind_some]; rw [if_neg (show ¬ (1 : Int32) = 0 by decide)]
  rcases holds2 N h1 hP hA hB u with ⟨kp, e1, e2⟩ | ⟨e1, e2⟩
  · rw [e1, e2]; simp only [Option.bind_some]; rw [if_neg (show ¬ (1 : Int32) = 0 by decide), if_neg (show ¬ (1 : Int32) = 0 by decide)]
    obtain ⟨F, i, φ, hc⟩ := cx_ex hp h5 hP hA hB hd
    have cb := cnt_b hU
    obtain ⟨t, q, el, hC, hL⟩ := listE N (by omega) hU
    obtain ⟨W, hW, al, few, W0⟩ := pl_ex hc hL
    obtain ⟨U, hu⟩ := isPt_pe hc kp
    obtain ⟨c1, pr1, hh1, gl1, e, HH, t1, -⟩ := fh2 hN hc hL hW al few W0 hu ht h0
    obtain ⟨⟨o1, o2⟩, eo, ho⟩ := hvR28 hN hc hU.invs hW hu (by omega)
    rw [e, el]; simp only [Option.bind_some]; rw [eo]
    have : c1 = o1 := HH.1.trans ho.symm
    subst this
    exact ⟨_, _, _, _, rfl, t1, _, _, _, rfl, hC⟩
  · rw [e1, e2]; exact ⟨_, _, _, _, rfl, ht, _, _, _, rfl, hU⟩
theorem V_half {N : Nat} (hN : 2 ^ 64 ≤ N) {P A B : Nat} {p a b rt pm cu : Int32} {f g pts ah ps as bs : Nat → Int32} {c : Int32} {pm1 : Int32} {f1 g1 : Nat → Int32} (hh : mX6_has N p a b rt pm cu f g ps as bs c = some (1, nI P, nI A, nI B, nI P, pm1, f1, g1)) (hU : CU P A B (nI P) (nI A) (nI B) (nI P) pm1 f1 g1 pts ah) {pr : Int32} {gl : Nat → Int32} (ht : tabC pr gl) (hd : disc P A B ≠ 0) (h0 : Nat → Int32) (u x : Int32) : ∃ r pr1 gl1 h1, mX5_half_s N pr gl h0 (nI P) (nI A) (nI B) c u x = some (r, pr1, gl1, h1) ∧ tabC pr1 gl1 ∧ ∃ pm2 pts1 ah1, mX6_half N p a b rt pm cu f g pts ah ps as bs c u x = some (r, nI P, nI A, nI B, nI P, pm2, f1, g1, pts1, ah1) ∧ CU P A B (nI P) (nI A) (nI B) (nI P) pm2 f1 g1 pts1 ah1 := by
  obtain ⟨h1, hP, h5, hp, hA, hB⟩ := hU.pos
  unfold mX5_half_s mX6_half
  rw [hh]; simp only [Option.bind_some]; rw [if_neg (show ¬ (1 : Int32) = 0 by decide)]
  rcases holds2 N h1 hP hA hB u with ⟨kp, e1, e2⟩ | ⟨e1, e2⟩
  · rw [e1, e2]; simp only [Option.bind_some]; rw [if_neg (show ¬ (1 : Int32) = 0 by decide), if_neg (show ¬ (1 : Int32) = 0 by decide)]
    obtain ⟨F, i, φ, hc⟩ := cx_ex hp h5 hP hA hB hd
    have cb := cnt_b hU
    obtain ⟨t, q, el, hC, hL⟩ := listE N (by omega) hU
    rw [el]; simp only [Option.bind_some]
    by_cases x0 : x < 0
    · rw [if_pos x0]
      obtain ⟨M, hM⟩ : ∃ M, N = M + 1 := ⟨N - 1, by omega⟩
      have : mi_run (mX6_half_b29 N (nI (cnt P A B P)) t (nI P) (nI A) f1 u (nI B) (nI P) g1 q) N (x, 0) = some (.inl (x, 0)) := by
        rw [show mi_run (mX6_half_b29 N (nI (cnt P A B P)) t (nI P) (nI A) f1 u (nI B) (nI P) g1 q) N (x, 0) = mi_run (mX6_half_b29 N (nI (cnt P A B P)) t (nI P) (nI A) f1 u (nI B) (nI P) g1 q) (M + 1) (x, 0) by rw [← hM]]
        show (mX6_half_b29 N (nI (cnt P A B P)) t (nI P) (nI A) f1 u (nI B) (nI P) g1 q (x, 0)).bind _ = _
        rw [show mX6_half_b29 N (nI (cnt P A B P)) t (nI P) (nI A) f1 u (nI B) (nI P) g1 q (x, 0) = some (.inr (.inl (x, 0))) from by
          dsimp only [mX6_half_b29]
          rw [if_neg (show ¬ nI (cnt P A B P) ≤ 0 from nI_ge (a := 0) (by omega) (by omega)), if_pos x0]]
        rfl
      rw [this]
      exact ⟨_, _, _, _, rfl, ht, _, _, _, rfl, hC⟩
    · have x1 := Int32.le_iff_toInt_le.mp (Int32.not_lt.mp x0)
      rw [show (0 : Int32).toInt = 0 by decide] at x1
      have eX := i32_toNat x1
      generalize hE : x.toInt.toNat = X at eX
      have Xb : X < 2 ^ 31 := by have := x.toInt_lt; omega
      subst eX
      obtain ⟨W, hW, al, few, W0⟩ := pl_ex hc hL
      obtain ⟨U, hu⟩ := isPt_pe hc kp
      obtain ⟨c1, pr1, hh1, gl1, e, HH, t1, b4⟩ := fh2 hN hc hL hW al few W0 hu ht h0
      obtain ⟨o, eo, ho⟩ := hvR29 hN hc hU.invs hW hu (by omega) (nI B) (nI P) g1 q Xb
      rw [if_neg x0, e, eo]; simp only [Option.bind_some]
      rw [HH.1]
      rcases o with ⟨o1, o2⟩ | z
      · have ho : ctN (fun j => gO hc (W j) (W j) = U) (cnt P A B P) ≤ X := ho
        rw [if_pos (nI_le ho (by omega))]
        exact ⟨_, _, _, _, rfl, t1, _, _, _, rfl, hC⟩
      · obtain ⟨k, hk, tk, ek, ez⟩ := ho
        have lt := ctN_lt (T := fun j => gO hc (W j) (W j) = U) hk tk
        rw [if_neg (nI_ge (by omega) (by omega))]
        unfold mX3_foundHalf
        rw [if_neg x0, if_neg (show ¬ 4 ≤ nI X from nI_ge (b := 4) (by omega) (by omega)), if_neg (ix_nI (by omega) (by omega)), nI_clamp (by omega)]
        have := HH.2 k hk tk
        rw [ek] at this
        dsimp only [mi_let]; simp only [Option.bind_some]
        rw [this, ez]
        exact ⟨_, _, _, _, rfl, t1, _, _, _, rfl, hC⟩
  · rw [e1, e2]; exact ⟨_, _, _, _, rfl, ht, _, _, _, rfl, hU⟩
