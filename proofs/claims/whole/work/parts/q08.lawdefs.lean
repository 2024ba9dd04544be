abbrev wX (q0 x_q7 x_q19 x_q5_23 x_q8_9_23 x_q16_23 x_q8_20_23 x_q17_20_23 x_q28_23 q8 y_q8 y_q17 y_q26 y_q35 y_q43 y_q51 y_q59 y_q67 y_q75 y_q83 y_q92 y_q100 : Nat) (x_k7 x_k8_9_23 x_k8_20_23 x_k17_20_23 x_k28_23 y_k8 y_k17 y_k26 y_k35 y_k43 y_k51 y_k59 y_k67 y_k75 y_k83 y_k92 y_k100 : ClassId) (sz : Int32) (hd : Nat → Option Nat) (pr : Int32) (gl : Nat → Int32) (lo : Option Nat) (od re ba : Int32) (sa en hz : Nat → Int32) (p_ a_ b_ rt pm cu : Int32) (f_ g_ pts ah ps as_ bs fr kp ko mk sn : Nat → Int32) : va_W := [(q0, .inr (4, [.ref x_q7, .int sz, .ref x_q19])), (x_q7, .inl (x_k7, 24, .inr (.inr (.inr (.inr hd))))), (x_q19, .inr (3, [.ref x_q5_23, .ref x_q16_23, .ref x_q28_23])), (x_q5_23, .inr (1, [.ref x_q8_9_23, .int pr])), (x_q8_9_23, .inl (x_k8_9_23, 10007, .inl gl)), (x_q16_23, .inr (2, [.ref x_q8_20_23, .ref x_q17_20_23, va_rf lo, .int od, .int re, .int ba])), (x_q8_20_23, .inl (x_k8_20_23, 10007, .inl sa)), (x_q17_20_23, .inl (x_k17_20_23, 128, .inl en)), (x_q28_23, .inl (x_k28_23, 4, .inl hz)), (q8, .inr (5, [.int p_, .int a_, .int b_, .ref y_q8, .ref y_q17, .int rt, .ref y_q26, .int pm, .ref y_q35, .int cu, .ref y_q43, .ref y_q51, .ref y_q59, .ref y_q67, .ref y_q75, .ref y_q83, .ref y_q92, .ref y_q100])), (y_q8, .inl (y_k8, 10008, .inl f_)), (y_q17, .inl (y_k17, 10008, .inl g_)), (y_q26, .inl (y_k26, 10300, .inl pts)), (y_q35, .inl (y_k35, 10008, .inl ah)), (y_q43, .inl (y_k43, 24, .inl ps)), (y_q51, .inl (y_k51, 24, .inl as_)), (y_q59, .inl (y_k59, 24, .inl bs)), (y_q67, .inl (y_k67, 24, .inl fr)), (y_q75, .inl (y_k75, 24, .inl kp)), (y_q83, .inl (y_k83, 24, .inl ko)), (y_q92, .inl (y_k92, 10300, .inl mk)), (y_q100, .inl (y_k100, 64, .inl sn))]
def wOK (dC : Nat → ClassId) (dI : Nat → Nat → Nat) (q0 x_q7 x_q19 x_q5_23 x_q8_9_23 x_q16_23 x_q8_20_23 x_q17_20_23 x_q28_23 q8 y_q8 y_q17 y_q26 y_q35 y_q43 y_q51 y_q59 y_q67 y_q75 y_q83 y_q92 y_q100 : Nat) (x_k7 x_k8_9_23 x_k8_20_23 x_k17_20_23 x_k28_23 y_k8 y_k17 y_k26 y_k35 y_k43 y_k51 y_k59 y_k67 y_k75 y_k83 y_k92 y_k100 : ClassId) (A : Nat → Prop) (s : State) (H : Heap) (locs : List Loc) : Prop := ∃ (sz : Int32) (hd : Nat → Option Nat) (pr : Int32) (gl : Nat → Int32) (lo : Option Nat) (od re ba : Int32) (sa en hz : Nat → Int32) (p_ a_ b_ rt pm cu : Int32) (f_ g_ pts ah ps as_ bs fr kp ko mk sn : Nat → Int32) (Lp : List Nat) (Fp : Nat → va_E), RW sz hd pr gl re sa en p_ a_ b_ rt pm cu f_ g_ pts ah ps as_ bs fr kp ko Lp Fp ∧ va_P (dC, dI) vwCl (wX q0 x_q7 x_q19 x_q5_23 x_q8_9_23 x_q16_23 x_q8_20_23 x_q17_20_23 x_q28_23 q8 y_q8 y_q17 y_q26 y_q35 y_q43 y_q51 y_q59 y_q67 y_q75 y_q83 y_q92 y_q100 x_k7 x_k8_9_23 x_k8_20_23 x_k17_20_23 x_k28_23 y_k8 y_k17 y_k26 y_k35 y_k43 y_k51 y_k59 y_k67 y_k75 y_k83 y_k92 y_k100 sz hd pr gl lo od re ba sa en hz p_ a_ b_ rt pm cu f_ g_ pts ah ps as_ bs fr kp ko mk sn ++ va_pl Lp Fp) H ∧ va_D A (wX q0 x_q7 x_q19 x_q5_23 x_q8_9_23 x_q16_23 x_q8_20_23 x_q17_20_23 x_q28_23 q8 y_q8 y_q17 y_q26 y_q35 y_q43 y_q51 y_q59 y_q67 y_q75 y_q83 y_q92 y_q100 x_k7 x_k8_9_23 x_k8_20_23 x_k17_20_23 x_k28_23 y_k8 y_k17 y_k26 y_k35 y_k43 y_k51 y_k59 y_k67 y_k75 y_k83 y_k92 y_k100 sz hd pr gl lo od re ba sa en hz p_ a_ b_ rt pm cu f_ g_ pts ah ps as_ bs fr kp ko mk sn ++ va_pl Lp Fp) ∧ va_S A s.heap H locs
theorem wOK_mk {dC : Nat → ClassId} {dI : Nat → Nat → Nat} {q0 x_q7 x_q19 x_q5_23 x_q8_9_23 x_q16_23 x_q8_20_23 x_q17_20_23 x_q28_23 q8 y_q8 y_q17 y_q26 y_q35 y_q43 y_q51 y_q59 y_q67 y_q75 y_q83 y_q92 y_q100 : Nat} {x_k7 x_k8_9_23 x_k8_20_23 x_k17_20_23 x_k28_23 y_k8 y_k17 y_k26 y_k35 y_k43 y_k51 y_k59 y_k67 y_k75 y_k83 y_k92 y_k100 : ClassId} {A : Nat → Prop} {s : State} {H : Heap} {locs : List Loc} {sz : Int32} {hd : Nat → Option Nat} {pr : Int32} {gl : Nat → Int32} {lo : Option Nat} {od re ba : Int32} {sa en hz : Nat → Int32} {p_ a_ b_ rt pm cu : Int32} {f_ g_ pts ah ps as_ bs fr kp ko mk sn : Nat → Int32} {Lp : List Nat} {Fp : Nat → va_E} (hR : RW sz hd pr gl re sa en p_ a_ b_ rt pm cu f_ g_ pts ah ps as_ bs fr kp ko Lp Fp) (hP : va_P (dC, dI) vwCl (wX q0 x_q7 x_q19 x_q5_23 x_q8_9_23 x_q16_23 x_q8_20_23 x_q17_20_23 x_q28_23 q8 y_q8 y_q17 y_q26 y_q35 y_q43 y_q51 y_q59 y_q67 y_q75 y_q83 y_q92 y_q100 x_k7 x_k8_9_23 x_k8_20_23 x_k17_20_23 x_k28_23 y_k8 y_k17 y_k26 y_k35 y_k43 y_k51 y_k59 y_k67 y_k75 y_k83 y_k92 y_k100 sz hd pr gl lo od re ba sa en hz p_ a_ b_ rt pm cu f_ g_ pts ah ps as_ bs fr kp ko mk sn ++ va_pl Lp Fp) H) (hD : va_D A (wX q0 x_q7 x_q19 x_q5_23 x_q8_9_23 x_q16_23 x_q8_20_23 x_q17_20_23 x_q28_23 q8 y_q8 y_q17 y_q26 y_q35 y_q43 y_q51 y_q59 y_q67 y_q75 y_q83 y_q92 y_q100 x_k7 x_k8_9_23 x_k8_20_23 x_k17_20_23 x_k28_23 y_k8 y_k17 y_k26 y_k35 y_k43 y_k51 y_k59 y_k67 y_k75 y_k83 y_k92 y_k100 sz hd pr gl lo od re ba sa en hz p_ a_ b_ rt pm cu f_ g_ pts ah ps as_ bs fr kp ko mk sn ++ va_pl Lp Fp)) (hS : va_S A s.heap H locs) : wOK dC dI q0 x_q7 x_q19 x_q5_23 x_q8_9_23 x_q16_23 x_q8_20_23 x_q17_20_23 x_q28_23 q8 y_q8 y_q17 y_q26 y_q35 y_q43 y_q51 y_q59 y_q67 y_q75 y_q83 y_q92 y_q100 x_k7 x_k8_9_23 x_k8_20_23 x_k17_20_23 x_k28_23 y_k8 y_k17 y_k26 y_k35 y_k43 y_k51 y_k59 y_k67 y_k75 y_k83 y_k92 y_k100 A s H locs := ⟨sz, hd, pr, gl, lo, od, re, ba, sa, en, hz, p_, a_, b_, rt, pm, cu, f_, g_, pts, ah, ps, as_, bs, fr, kp, ko, mk, sn, Lp, Fp, hR, hP, hD, hS⟩
theorem wl_in0 {L I : Nat} {i : Int32} (ei : i = nI I) (hI : I + 7 ≤ L) (hL : L ≤ 3584) : vp_in i L := by
  subst ei
  refine vp_in_iff.mpr ?_
  rw [nI_toInt (by omega)]; omega
theorem wl_in1 {L I : Nat} {i : Int32} (ei : i = nI I) (hI : I + 7 ≤ L) (hL : L ≤ 3584) : vp_in (i + 1) L := by
  subst ei
  rw [show nI I + 1 = nI (I + 1) from nI_add I 1]
  refine vp_in_iff.mpr ?_
  rw [nI_toInt (by omega)]; omega
theorem wl_in2 {L I : Nat} {i : Int32} (ei : i = nI I) (hI : I + 7 ≤ L) (hL : L ≤ 3584) : vp_in (i + 2) L := by
  subst ei
  rw [show nI I + 2 = nI (I + 2) from nI_add I 2]
  refine vp_in_iff.mpr ?_
  rw [nI_toInt (by omega)]; omega
theorem wl_in3 {L I : Nat} {i : Int32} (ei : i = nI I) (hI : I + 7 ≤ L) (hL : L ≤ 3584) : vp_in (i + 3) L := by
  subst ei
  rw [show nI I + 3 = nI (I + 3) from nI_add I 3]
  refine vp_in_iff.mpr ?_
  rw [nI_toInt (by omega)]; omega
theorem wl_in4 {L I : Nat} {i : Int32} (ei : i = nI I) (hI : I + 7 ≤ L) (hL : L ≤ 3584) : vp_in (i + 4) L := by
  subst ei
  rw [show nI I + 4 = nI (I + 4) from nI_add I 4]
  refine vp_in_iff.mpr ?_
  rw [nI_toInt (by omega)]; omega
theorem wl_in5 {L I : Nat} {i : Int32} (ei : i = nI I) (hI : I + 7 ≤ L) (hL : L ≤ 3584) : vp_in (i + 5) L := by
  subst ei
  rw [show nI I + 5 = nI (I + 5) from nI_add I 5]
  refine vp_in_iff.mpr ?_
  rw [nI_toInt (by omega)]; omega
theorem wl_in6 {L I : Nat} {i : Int32} (ei : i = nI I) (hI : I + 7 ≤ L) (hL : L ≤ 3584) : vp_in (i + 6) L := by
  subst ei
  rw [show nI I + 6 = nI (I + 6) from nI_add I 6]
  refine vp_in_iff.mpr ?_
  rw [nI_toInt (by omega)]; omega
theorem lc_self (x : Int64) : lg_cmp x x = 0 := by unfold lg_cmp; simp
