set_option maxHeartbeats 4000000 in
set_option maxRecDepth 100000 in
theorem lawW_c33 {p : Program} {l : Launch} {e : Env} {s : State} {m : MethodId} {below : List Frame} {meth : Method} {c : Code} {b L : Nat} {xs : Nat → Int32} (hL : L ≤ 3584) (C0 : lw_At p s m meth c b L xs) {N : Nat} (hN1 : 2 ^ 64 ≤ N) (dC : Nat → ClassId) (dI : Nat → Nat → Nat) (q0 x_q7 x_q19 x_q5_23 x_q8_9_23 x_q16_23 x_q8_20_23 x_q17_20_23 x_q28_23 q8 y_q8 y_q17 y_q26 y_q35 y_q43 y_q51 y_q59 y_q67 y_q75 y_q83 y_q92 y_q100 : Nat) (x_k7 x_k8_9_23 x_k8_20_23 x_k17_20_23 x_k28_23 y_k8 y_k17 y_k26 y_k35 y_k43 y_k51 y_k59 y_k67 y_k75 y_k83 y_k92 y_k100 : ClassId) {A : Nat → Prop} (hAe : A = fun q => s.heap.size ≤ q) (hN : nw_all s) (hK : va_K (dC, dI) vwCl [(x_k7, .object "PointRings$Curve"), (x_k8_9_23, .int), (x_k8_20_23, .int), (x_k17_20_23, .int), (x_k28_23, .int), (y_k8, .int), (y_k17, .int), (y_k26, .int), (y_k35, .int), (y_k43, .int), (y_k51, .int), (y_k59, .int), (y_k67, .int), (y_k75, .int), (y_k83, .int), (y_k92, .boolean), (y_k100, .boolean)] s) {i9 : Int32} {I9 : Nat} (ei : i9 = nI I9) (hI9 : I9 + 7 ≤ L) {cells slots : Nat} (hcs : cells ≤ 1000) (hss : slots ≤ 100000) (Co : ∀ (H1 : Heap) (locs1 : List Loc) (cells1 slots1 : Nat) (ls1 : Array Slot), wOK dC dI q0 x_q7 x_q19 x_q5_23 x_q8_9_23 x_q16_23 x_q8_20_23 x_q17_20_23 x_q28_23 q8 y_q8 y_q17 y_q26 y_q35 y_q43 y_q51 y_q59 y_q67 y_q75 y_q83 y_q92 y_q100 x_k7 x_k8_9_23 x_k8_20_23 x_k17_20_23 x_k28_23 y_k8 y_k17 y_k26 y_k35 y_k43 y_k51 y_k59 y_k67 y_k75 y_k83 y_k92 y_k100 A s H1 locs1 → lv_has ls1 4 [(0, .ref b), (1, .ref q0), (2, .ref q8), (3, .int i9)] → cells1 ≤ cells + 1 → slots1 ≤ slots + 12 → W p l e room_1 s m #[Value.ref b] below meth c H1 locs1 cells1 slots1 (lw_Z below #[Value.ref b] s) (F0 m 1739 ls1 [])) (H : Heap) (locs : List Loc) (ls : Array Slot) (hW : wOK dC dI q0 x_q7 x_q19 x_q5_23 x_q8_9_23 x_q16_23 x_q8_20_23 x_q17_20_23 x_q28_23 q8 y_q8 y_q17 y_q26 y_q35 y_q43 y_q51 y_q59 y_q67 y_q75 y_q83 y_q92 y_q100 x_k7 x_k8_9_23 x_k8_20_23 x_k17_20_23 x_k28_23 y_k8 y_k17 y_k26 y_k35 y_k43 y_k51 y_k59 y_k67 y_k75 y_k83 y_k92 y_k100 A s H locs) (hl : lv_has ls 4 [(0, .ref b), (1, .ref q0), (2, .ref q8), (3, .int i9)]) : W p l e room_1 s m #[Value.ref b] below meth c H locs cells slots (lw_Z below #[Value.ref b] s) (F0 m 1464 ls []) := by
  obtain ⟨hx, hb, hr, hml, hown, hts, hX, hbl, hlocks, hgv⟩ := id C0
  have hbA : ¬ A b := by rw [hAe]; exact Nat.not_le.mpr hbl
  have hA0 : ∀ q : Nat, s.heap.size ≤ q → A q := fun q h => by rw [hAe]; exact h
  obtain ⟨sz, hd, pr, gl, lo, od, re, ba, sa, en, hz, p_, a_, b_, rt, pm, cu, f_, g_, pts, ah, ps, as_, bs, fr, kp, ko, mk, sn, Lp, Fp, hR, hP, hD, hS⟩ := hW
  have hP : va_P (dC, dI) vwCl ([(q0, .inr (4, [.ref x_q7, .int sz, .ref x_q19])), (x_q7, .inl (x_k7, 24, .inr (.inr (.inr (.inr hd))))), (x_q19, .inr (3, [.ref x_q5_23, .ref x_q16_23, .ref x_q28_23])), (x_q5_23, .inr (1, [.ref x_q8_9_23, .int pr])), (x_q8_9_23, .inl (x_k8_9_23, 10007, .inl gl)), (x_q16_23, .inr (2, [.ref x_q8_20_23, .ref x_q17_20_23, va_rf lo, .int od, .int re, .int ba])), (x_q8_20_23, .inl (x_k8_20_23, 10007, .inl sa)), (x_q17_20_23, .inl (x_k17_20_23, 128, .inl en)), (x_q28_23, .inl (x_k28_23, 4, .inl hz)), (q8, .inr (5, [.int p_, .int a_, .int b_, .ref y_q8, .ref y_q17, .int rt, .ref y_q26, .int pm, .ref y_q35, .int cu, .ref y_q43, .ref y_q51, .ref y_q59, .ref y_q67, .ref y_q75, .ref y_q83, .ref y_q92, .ref y_q100])), (y_q8, .inl (y_k8, 10008, .inl f_)), (y_q17, .inl (y_k17, 10008, .inl g_)), (y_q26, .inl (y_k26, 10300, .inl pts)), (y_q35, .inl (y_k35, 10008, .inl ah)), (y_q43, .inl (y_k43, 24, .inl ps)), (y_q51, .inl (y_k51, 24, .inl as_)), (y_q59, .inl (y_k59, 24, .inl bs)), (y_q67, .inl (y_k67, 24, .inl fr)), (y_q75, .inl (y_k75, 24, .inl kp)), (y_q83, .inl (y_k83, 24, .inl ko)), (y_q92, .inl (y_k92, 10300, .inl mk)), (y_q100, .inl (y_k100, 64, .inl sn))] ++ va_pl Lp Fp) H := hP
  have hD : va_D A ([(q0, .inr (4, [.ref x_q7, .int sz, .ref x_q19])), (x_q7, .inl (x_k7, 24, .inr (.inr (.inr (.inr hd))))), (x_q19, .inr (3, [.ref x_q5_23, .ref x_q16_23, .ref x_q28_23])), (x_q5_23, .inr (1, [.ref x_q8_9_23, .int pr])), (x_q8_9_23, .inl (x_k8_9_23, 10007, .inl gl)), (x_q16_23, .inr (2, [.ref x_q8_20_23, .ref x_q17_20_23, va_rf lo, .int od, .int re, .int ba])), (x_q8_20_23, .inl (x_k8_20_23, 10007, .inl sa)), (x_q17_20_23, .inl (x_k17_20_23, 128, .inl en)), (x_q28_23, .inl (x_k28_23, 4, .inl hz)), (q8, .inr (5, [.int p_, .int a_, .int b_, .ref y_q8, .ref y_q17, .int rt, .ref y_q26, .int pm, .ref y_q35, .int cu, .ref y_q43, .ref y_q51, .ref y_q59, .ref y_q67, .ref y_q75, .ref y_q83, .ref y_q92, .ref y_q100])), (y_q8, .inl (y_k8, 10008, .inl f_)), (y_q17, .inl (y_k17, 10008, .inl g_)), (y_q26, .inl (y_k26, 10300, .inl pts)), (y_q35, .inl (y_k35, 10008, .inl ah)), (y_q43, .inl (y_k43, 24, .inl ps)), (y_q51, .inl (y_k51, 24, .inl as_)), (y_q59, .inl (y_k59, 24, .inl bs)), (y_q67, .inl (y_k67, 24, .inl fr)), (y_q75, .inl (y_k75, 24, .inl kp)), (y_q83, .inl (y_k83, 24, .inl ko)), (y_q92, .inl (y_k92, 10300, .inl mk)), (y_q100, .inl (y_k100, 64, .inl sn))] ++ va_pl Lp Fp) := hD
  obtain ⟨hTb, hSD, hCR⟩ := hR.tab
  refine lv_aload_n hx hb dL_law_1464 rfl (lv_at hl 1 rfl) ?_
  refine lv_aload_n hx hb dL_law_1465 rfl (lv_at hl 0 rfl) ?_
  refine lv_iload_n hx hb dL_law_1466 rfl (lv_at hl 3 rfl) ?_
  refine lv_iconst (v := 1) hx hb dL_law_1467 (by decide) ?_
  refine lv_iadd hx hb dL_law_1468 ?_
  refine va_sld hx hb hX hbl hbA hS (wl_in1 ei hI9 hL) dL_law_1469 ?_
  refine lv_topi (fun s1 es1 => ?_)
  refine lv_aload_n hx hb dL_law_1470 rfl (lv_at hl 0 rfl) ?_
  refine lv_iload_n hx hb dL_law_1471 rfl (lv_at hl 3 rfl) ?_
  refine lv_iconst (v := 2) hx hb dL_law_1472 (by decide) ?_
  refine lv_iadd hx hb dL_law_1473 ?_
  refine va_sld hx hb hX hbl hbA hS (wl_in2 ei hI9 hL) dL_law_1474 ?_
  refine lv_topi (fun s2 es2 => ?_)
  rcases RW.kern hN1 hR s1 with ⟨hk0, hin⟩ | ⟨y0, D9, n9, P9, A9, B9, ff, kk, oo, qq, ii, ot, mf, fi, se, hDn, n24, e1, e2, ed, hy, hk0, hF, hin, hK9⟩
  · have hPc := hP.sub (ws' := [(q0, .inr (4, [.ref x_q7, .int sz, .ref x_q19])), (x_q7, .inl (x_k7, 24, .inr (.inr (.inr (.inr hd)))))]) [0, 1] rfl
    have hKc := hK.sub (tys' := [(x_k7, .object "PointRings$Curve")]) [0] rfl
    refine vp_callSi (W.runV (As := [.int s1, .int s2]) (rest := []) ⟨hx, hb, hml, hown, hts⟩ (ctX5_kernel_n l N dC dI  q0 x_q7 x_q19 x_k7 sz hd s1 s2 (-2) rfl hk0 rfl) (cwV 2 hts gL_X5_kernel_n rfl rfl rfl (by decide +kernel) ⟨Nat.le_of_ble_eq_true rfl, Nat.le_of_ble_eq_true rfl⟩) ⟨fun a U g mk q => by obtain ⟨q0, qP, qK, qN⟩ := q; exact ⟨q0, qP, va_K.moved (u := U) (U := U.calling g mk a) (Vm.Alike.refl U.vm) qK, nw_same (u := U) (U := U.calling g mk a) rfl qN⟩, va_recv hKc hPc (ci := 4) (q0 := 0) rfl rfl, fun U hU hW => ⟨rfl, by rw [hU]; exact hPc, va_K.moved hW.alike hKc, nw_warm hW hN⟩⟩ rfl rfl hl.1 rfl (lv_room (Nat.le_of_ble_eq_true rfl)) dL_law_1475 ⟨by show _ + _ ≤ 600000; omega, by show _ + _ ≤ 7302250; omega⟩) (fun q9 eq9 => ?_)
    subst q9
    have hm : mX6_kernel N cu fr kp ko s1 s2 = some (-2) := by unfold mX6_kernel; rw [hin]; rfl
    refine lv_aload_n hx hb dL_law_1478 rfl (lv_at hl 2 rfl) ?_
    refine lv_aload_n hx hb dL_law_1479 rfl (lv_at hl 0 rfl) ?_
    refine lv_iload_n hx hb dL_law_1480 rfl (lv_at hl 3 rfl) ?_
    refine lv_iconst (v := 1) hx hb dL_law_1481 (by decide) ?_
    refine lv_iadd hx hb dL_law_1482 ?_
    refine va_sld hx hb hX hbl hbA hS (wl_in1 ei hI9 hL) dL_law_1483 ?_
    rw [← es1]
    refine lv_aload_n hx hb dL_law_1484 rfl (lv_at hl 0 rfl) ?_
    refine lv_iload_n hx hb dL_law_1485 rfl (lv_at hl 3 rfl) ?_
    refine lv_iconst (v := 2) hx hb dL_law_1486 (by decide) ?_
    refine lv_iadd hx hb dL_law_1487 ?_
    refine va_sld hx hb hX hbl hbA hS (wl_in2 ei hI9 hL) dL_law_1488 ?_
    rw [← es2]
    obtain ⟨r1004, hr1004⟩ : ∃ z, mX6_kernel N cu fr kp ko s1 s2 = some z := ⟨_, hm⟩
    have hPc := hP.sub (ws' := [(q8, .inr (5, [.int p_, .int a_, .int b_, .ref y_q8, .ref y_q17, .int rt, .ref y_q26, .int pm, .ref y_q35, .int cu, .ref y_q43, .ref y_q51, .ref y_q59, .ref y_q67, .ref y_q75, .ref y_q83, .ref y_q92, .ref y_q100])), (y_q67, .inl (y_k67, 24, .inl fr)), (y_q75, .inl (y_k75, 24, .inl kp)), (y_q83, .inl (y_k83, 24, .inl ko))]) [9, 17, 18, 19] rfl
    have hKc := hK.sub (tys' := [(y_k67, .int), (y_k75, .int), (y_k83, .int)]) [12, 13, 14] rfl
    refine vp_callSi (W.runV (As := [.int s1, .int s2]) (rest := [.int (-2)]) ⟨hx, hb, hml, hown, hts⟩ (ctX6_kernel l N dC dI  q8 y_q67 y_q75 y_q83 y_q8 y_q17 y_q26 y_q35 y_q43 y_q51 y_q59 y_q92 y_q100 y_k67 y_k75 y_k83 p_ a_ b_ rt pm cu fr kp ko s1 s2 r1004 hr1004) (cwV 2 hts gL_X6_kernel rfl rfl rfl (by decide +kernel) ⟨Nat.le_of_ble_eq_true rfl, Nat.le_of_ble_eq_true rfl⟩) ⟨fun a U g mk q => by obtain ⟨q0, qP, qK, qN⟩ := q; exact ⟨q0, qP, va_K.moved (u := U) (U := U.calling g mk a) (Vm.Alike.refl U.vm) qK, nw_same (u := U) (U := U.calling g mk a) rfl qN⟩, va_recv hKc hPc (ci := 5) (q0 := 0) rfl rfl, fun U hU hW => ⟨rfl, by rw [hU]; exact hPc, va_K.moved hW.alike hKc, nw_warm hW hN⟩⟩ rfl rfl hl.1 rfl (lv_room (Nat.le_of_ble_eq_true rfl)) dL_law_1489 ⟨by show _ + _ ≤ 600000; omega, by show _ + _ ≤ 7302250; omega⟩) (fun q9 eq9 => ?_)
    subst q9
    have h9 := hr1004.symm.trans hm
    cases h9
    refine lv_icmp_eq (tgt := 1739) hx hb dL_law_1492 (by decide) (fun c9 => ?_) (fun c9 => absurd rfl c9)
    exact Co _ _ _ _ _ (wOK_mk (hR) hP hD hS) hl (by omega) (by omega)
  · rcases hK9 with ⟨ho, hfr⟩ | ⟨ho, hfr, e3, e4, e5, y1, o9, P1, A1, B1, ff1, kk1, oo1, qq1, ii1, ot1, mf1, fi1, se1, pm1, f1, g1, eo9, ho4, hko, hy1, hy10, hk2, hF1, hdi1, hh, hU⟩
    · have hP8 : va_P (dC, dI) vwCl ([(q0, .inr (4, [.ref x_q7, .int sz, .ref x_q19])), (x_q7, .inl (x_k7, 24, .inr (.inr (.inr (.inr hd))))), (x_q19, .inr (3, [.ref x_q5_23, .ref x_q16_23, .ref x_q28_23])), (x_q5_23, .inr (1, [.ref x_q8_9_23, .int pr])), (x_q8_9_23, .inl (x_k8_9_23, 10007, .inl gl)), (x_q16_23, .inr (2, [.ref x_q8_20_23, .ref x_q17_20_23, va_rf lo, .int od, .int re, .int ba])), (x_q8_20_23, .inl (x_k8_20_23, 10007, .inl sa)), (x_q17_20_23, .inl (x_k17_20_23, 128, .inl en)), (x_q28_23, .inl (x_k28_23, 4, .inl hz)), (q8, .inr (5, [.int p_, .int a_, .int b_, .ref y_q8, .ref y_q17, .int rt, .ref y_q26, .int pm, .ref y_q35, .int cu, .ref y_q43, .ref y_q51, .ref y_q59, .ref y_q67, .ref y_q75, .ref y_q83, .ref y_q92, .ref y_q100])), (y_q8, .inl (y_k8, 10008, .inl f_)), (y_q17, .inl (y_k17, 10008, .inl g_)), (y_q26, .inl (y_k26, 10300, .inl pts)), (y_q35, .inl (y_k35, 10008, .inl ah)), (y_q43, .inl (y_k43, 24, .inl ps)), (y_q51, .inl (y_k51, 24, .inl as_)), (y_q59, .inl (y_k59, 24, .inl bs)), (y_q67, .inl (y_k67, 24, .inl fr)), (y_q75, .inl (y_k75, 24, .inl kp)), (y_q83, .inl (y_k83, 24, .inl ko)), (y_q92, .inl (y_k92, 10300, .inl mk)), (y_q100, .inl (y_k100, 64, .inl sn)), (y0, .inr (0, [.int (nI P9), .int (nI A9), .int (nI B9), .int ff, .int kk, .int oo, .int qq, .int ii, .int ot, .int mf, .int fi, .int se]))] ++ va_pl (Lp.erase y0) Fp) H := by have z := vaP_perm (pl_perm hy) hP; rw [hF] at z; exact z
      have hkm : mX5_madeByKernel_s N y0 oo s1 = some none := by unfold mX5_madeByKernel_s; rw [if_pos ho]
      have hm : mX6_kernel N cu fr kp ko s1 s2 = some (-2) := by rw [ed] at hin ⊢; exact V_kernel0 hDn n24 hin hfr _
      have hP7 := hP
      have hP := hP8
      have hPc := hP.sub (ws' := [(q0, .inr (4, [.ref x_q7, .int sz, .ref x_q19])), (x_q7, .inl (x_k7, 24, .inr (.inr (.inr (.inr hd))))), (y0, .inr (0, [.int (nI P9), .int (nI A9), .int (nI B9), .int ff, .int kk, .int oo, .int qq, .int ii, .int ot, .int mf, .int fi, .int se]))]) [0, 1, 22] rfl
      have hKc := hK.sub (tys' := [(x_k7, .object "PointRings$Curve")]) [0] rfl
      refine vp_callSi (W.runV (As := [.int s1, .int s2]) (rest := []) ⟨hx, hb, hml, hown, hts⟩ (ctX5_kernel_z l N dC dI  q0 x_q7 y0 x_q19 x_k7 sz hd (nI P9) (nI A9) (nI B9) ff kk oo qq ii ot mf fi se s1 s2 (-2) rfl hk0 hkm) (cwV 2 hts gL_X5_kernel rfl rfl rfl (by decide +kernel) ⟨Nat.le_of_ble_eq_true rfl, Nat.le_of_ble_eq_true rfl⟩) ⟨fun a U g mk q => by obtain ⟨q0, qP, qK, qN⟩ := q; exact ⟨q0, qP, va_K.moved (u := U) (U := U.calling g mk a) (Vm.Alike.refl U.vm) qK, nw_same (u := U) (U := U.calling g mk a) rfl qN⟩, va_recv hKc hPc (ci := 4) (q0 := 0) rfl rfl, fun U hU hW => ⟨rfl, by rw [hU]; exact hPc, va_K.moved hW.alike hKc, nw_warm hW hN⟩⟩ rfl rfl hl.1 rfl (lv_room (Nat.le_of_ble_eq_true rfl)) dL_law_1475 ⟨by show _ + _ ≤ 600000; omega, by show _ + _ ≤ 7302250; omega⟩) (fun q9 eq9 => ?_)
      subst q9
      have hP := hP7
      refine lv_aload_n hx hb dL_law_1478 rfl (lv_at hl 2 rfl) ?_
      refine lv_aload_n hx hb dL_law_1479 rfl (lv_at hl 0 rfl) ?_
      refine lv_iload_n hx hb dL_law_1480 rfl (lv_at hl 3 rfl) ?_
      refine lv_iconst (v := 1) hx hb dL_law_1481 (by decide) ?_
      refine lv_iadd hx hb dL_law_1482 ?_
      refine va_sld hx hb hX hbl hbA hS (wl_in1 ei hI9 hL) dL_law_1483 ?_
      rw [← es1]
      refine lv_aload_n hx hb dL_law_1484 rfl (lv_at hl 0 rfl) ?_
      refine lv_iload_n hx hb dL_law_1485 rfl (lv_at hl 3 rfl) ?_
      refine lv_iconst (v := 2) hx hb dL_law_1486 (by decide) ?_
      refine lv_iadd hx hb dL_law_1487 ?_
      refine va_sld hx hb hX hbl hbA hS (wl_in2 ei hI9 hL) dL_law_1488 ?_
      rw [← es2]
      obtain ⟨r1006, hr1006⟩ : ∃ z, mX6_kernel N cu fr kp ko s1 s2 = some z := ⟨_, hm⟩
      have hPc := hP.sub (ws' := [(q8, .inr (5, [.int p_, .int a_, .int b_, .ref y_q8, .ref y_q17, .int rt, .ref y_q26, .int pm, .ref y_q35, .int cu, .ref y_q43, .ref y_q51, .ref y_q59, .ref y_q67, .ref y_q75, .ref y_q83, .ref y_q92, .ref y_q100])), (y_q67, .inl (y_k67, 24, .inl fr)), (y_q75, .inl (y_k75, 24, .inl kp)), (y_q83, .inl (y_k83, 24, .inl ko))]) [9, 17, 18, 19] rfl
      have hKc := hK.sub (tys' := [(y_k67, .int), (y_k75, .int), (y_k83, .int)]) [12, 13, 14] rfl
      refine vp_callSi (W.runV (As := [.int s1, .int s2]) (rest := [.int (-2)]) ⟨hx, hb, hml, hown, hts⟩ (ctX6_kernel l N dC dI  q8 y_q67 y_q75 y_q83 y_q8 y_q17 y_q26 y_q35 y_q43 y_q51 y_q59 y_q92 y_q100 y_k67 y_k75 y_k83 p_ a_ b_ rt pm cu fr kp ko s1 s2 r1006 hr1006) (cwV 2 hts gL_X6_kernel rfl rfl rfl (by decide +kernel) ⟨Nat.le_of_ble_eq_true rfl, Nat.le_of_ble_eq_true rfl⟩) ⟨fun a U g mk q => by obtain ⟨q0, qP, qK, qN⟩ := q; exact ⟨q0, qP, va_K.moved (u := U) (U := U.calling g mk a) (Vm.Alike.refl U.vm) qK, nw_same (u := U) (U := U.calling g mk a) rfl qN⟩, va_recv hKc hPc (ci := 5) (q0 := 0) rfl rfl, fun U hU hW => ⟨rfl, by rw [hU]; exact hPc, va_K.moved hW.alike hKc, nw_warm hW hN⟩⟩ rfl rfl hl.1 rfl (lv_room (Nat.le_of_ble_eq_true rfl)) dL_law_1489 ⟨by show _ + _ ≤ 600000; omega, by show _ + _ ≤ 7302250; omega⟩) (fun q9 eq9 => ?_)
      subst q9
      have h9 := hr1006.symm.trans hm
      cases h9
      refine lv_icmp_eq (tgt := 1739) hx hb dL_law_1492 (by decide) (fun c9 => ?_) (fun c9 => absurd rfl c9)
      exact Co _ _ _ _ _ (wOK_mk (hR) hP hD hS) hl (by omega) (by omega)
    · have hP8 : va_P (dC, dI) vwCl ([(q0, .inr (4, [.ref x_q7, .int sz, .ref x_q19])), (x_q7, .inl (x_k7, 24, .inr (.inr (.inr (.inr hd))))), (x_q19, .inr (3, [.ref x_q5_23, .ref x_q16_23, .ref x_q28_23])), (x_q5_23, .inr (1, [.ref x_q8_9_23, .int pr])), (x_q8_9_23, .inl (x_k8_9_23, 10007, .inl gl)), (x_q16_23, .inr (2, [.ref x_q8_20_23, .ref x_q17_20_23, va_rf lo, .int od, .int re, .int ba])), (x_q8_20_23, .inl (x_k8_20_23, 10007, .inl sa)), (x_q17_20_23, .inl (x_k17_20_23, 128, .inl en)), (x_q28_23, .inl (x_k28_23, 4, .inl hz)), (q8, .inr (5, [.int p_, .int a_, .int b_, .ref y_q8, .ref y_q17, .int rt, .ref y_q26, .int pm, .ref y_q35, .int cu, .ref y_q43, .ref y_q51, .ref y_q59, .ref y_q67, .ref y_q75, .ref y_q83, .ref y_q92, .ref y_q100])), (y_q8, .inl (y_k8, 10008, .inl f_)), (y_q17, .inl (y_k17, 10008, .inl g_)), (y_q26, .inl (y_k26, 10300, .inl pts)), (y_q35, .inl (y_k35, 10008, .inl ah)), (y_q43, .inl (y_k43, 24, .inl ps)), (y_q51, .inl (y_k51, 24, .inl as_)), (y_q59, .inl (y_k59, 24, .inl bs)), (y_q67, .inl (y_k67, 24, .inl fr)), (y_q75, .inl (y_k75, 24, .inl kp)), (y_q83, .inl (y_k83, 24, .inl ko)), (y_q92, .inl (y_k92, 10300, .inl mk)), (y_q100, .inl (y_k100, 64, .inl sn)), (y0, .inr (0, [.int (nI P9), .int (nI A9), .int (nI B9), .int ff, .int kk, .int oo, .int qq, .int ii, .int ot, .int mf, .int fi, .int se]))] ++ va_pl (Lp.erase y0) Fp) H := by have z := vaP_perm (pl_perm hy) hP; rw [hF] at z; exact z
      have hkm : mX5_madeByKernel_s N y0 oo s1 = some (some y0) := by unfold mX5_madeByKernel_s; rw [if_neg ho]
      obtain ⟨r9, hv, hm⟩ := V_kernel1 hDn n24 (by rw [ed] at hin; exact hin) hfr e3 e4 e5 s2
      rw [← ed] at hv hm
      have hP7 := hP
      have hP := hP8
      obtain ⟨r1007, hr1007⟩ : ∃ z, mX5_kernel_s N ff kk oo s1 s2 = some z := ⟨_, hv⟩
      have hPc := hP.sub (ws' := [(q0, .inr (4, [.ref x_q7, .int sz, .ref x_q19])), (x_q7, .inl (x_k7, 24, .inr (.inr (.inr (.inr hd))))), (y0, .inr (0, [.int (nI P9), .int (nI A9), .int (nI B9), .int ff, .int kk, .int oo, .int qq, .int ii, .int ot, .int mf, .int fi, .int se]))]) [0, 1, 22] rfl
      have hKc := hK.sub (tys' := [(x_k7, .object "PointRings$Curve")]) [0] rfl
      refine vp_callSi (W.runV (As := [.int s1, .int s2]) (rest := []) ⟨hx, hb, hml, hown, hts⟩ (ctX5_kernel_s l N dC dI  q0 x_q7 y0 x_q19 x_k7 sz hd (nI P9) (nI A9) (nI B9) ff kk oo qq ii ot mf fi se s1 s2 r1007 hr1007 hk0 hkm) (cwV 2 hts gL_X5_kernel rfl rfl rfl (by decide +kernel) ⟨Nat.le_of_ble_eq_true rfl, Nat.le_of_ble_eq_true rfl⟩) ⟨fun a U g mk q => by obtain ⟨q0, qP, qK, qN⟩ := q; exact ⟨q0, qP, va_K.moved (u := U) (U := U.calling g mk a) (Vm.Alike.refl U.vm) qK, nw_same (u := U) (U := U.calling g mk a) rfl qN⟩, va_recv hKc hPc (ci := 4) (q0 := 0) rfl rfl, fun U hU hW => ⟨rfl, by rw [hU]; exact hPc, va_K.moved hW.alike hKc, nw_warm hW hN⟩⟩ rfl rfl hl.1 rfl (lv_room (Nat.le_of_ble_eq_true rfl)) dL_law_1475 ⟨by show _ + _ ≤ 600000; omega, by show _ + _ ≤ 7302250; omega⟩) (fun q9 eq9 => ?_)
      subst q9
      have hP := hP7
      refine lv_aload_n hx hb dL_law_1478 rfl (lv_at hl 2 rfl) ?_
      refine lv_aload_n hx hb dL_law_1479 rfl (lv_at hl 0 rfl) ?_
      refine lv_iload_n hx hb dL_law_1480 rfl (lv_at hl 3 rfl) ?_
      refine lv_iconst (v := 1) hx hb dL_law_1481 (by decide) ?_
      refine lv_iadd hx hb dL_law_1482 ?_
      refine va_sld hx hb hX hbl hbA hS (wl_in1 ei hI9 hL) dL_law_1483 ?_
      rw [← es1]
      refine lv_aload_n hx hb dL_law_1484 rfl (lv_at hl 0 rfl) ?_
      refine lv_iload_n hx hb dL_law_1485 rfl (lv_at hl 3 rfl) ?_
      refine lv_iconst (v := 2) hx hb dL_law_1486 (by decide) ?_
      refine lv_iadd hx hb dL_law_1487 ?_
      refine va_sld hx hb hX hbl hbA hS (wl_in2 ei hI9 hL) dL_law_1488 ?_
      rw [← es2]
      obtain ⟨r1008, hr1008⟩ : ∃ z, mX6_kernel N cu fr kp ko s1 s2 = some z := ⟨_, hm⟩
      have hPc := hP.sub (ws' := [(q8, .inr (5, [.int p_, .int a_, .int b_, .ref y_q8, .ref y_q17, .int rt, .ref y_q26, .int pm, .ref y_q35, .int cu, .ref y_q43, .ref y_q51, .ref y_q59, .ref y_q67, .ref y_q75, .ref y_q83, .ref y_q92, .ref y_q100])), (y_q67, .inl (y_k67, 24, .inl fr)), (y_q75, .inl (y_k75, 24, .inl kp)), (y_q83, .inl (y_k83, 24, .inl ko))]) [9, 17, 18, 19] rfl
      have hKc := hK.sub (tys' := [(y_k67, .int), (y_k75, .int), (y_k83, .int)]) [12, 13, 14] rfl
      refine vp_callSi (W.runV (As := [.int s1, .int s2]) (rest := [.int r1007]) ⟨hx, hb, hml, hown, hts⟩ (ctX6_kernel l N dC dI  q8 y_q67 y_q75 y_q83 y_q8 y_q17 y_q26 y_q35 y_q43 y_q51 y_q59 y_q92 y_q100 y_k67 y_k75 y_k83 p_ a_ b_ rt pm cu fr kp ko s1 s2 r1008 hr1008) (cwV 2 hts gL_X6_kernel rfl rfl rfl (by decide +kernel) ⟨Nat.le_of_ble_eq_true rfl, Nat.le_of_ble_eq_true rfl⟩) ⟨fun a U g mk q => by obtain ⟨q0, qP, qK, qN⟩ := q; exact ⟨q0, qP, va_K.moved (u := U) (U := U.calling g mk a) (Vm.Alike.refl U.vm) qK, nw_same (u := U) (U := U.calling g mk a) rfl qN⟩, va_recv hKc hPc (ci := 5) (q0 := 0) rfl rfl, fun U hU hW => ⟨rfl, by rw [hU]; exact hPc, va_K.moved hW.alike hKc, nw_warm hW hN⟩⟩ rfl rfl hl.1 rfl (lv_room (Nat.le_of_ble_eq_true rfl)) dL_law_1489 ⟨by show _ + _ ≤ 600000; omega, by show _ + _ ≤ 7302250; omega⟩) (fun q9 eq9 => ?_)
      subst q9
      have h8 := hr1007.symm.trans hv
      cases h8
      have h9 := hr1008.symm.trans hm
      cases h9
      refine lv_icmp_eq (tgt := 1739) hx hb dL_law_1492 (by decide) (fun c9 => ?_) (fun c9 => absurd rfl c9)
      exact Co _ _ _ _ _ (wOK_mk (hR) hP hD hS) hl (by omega) (by omega)
