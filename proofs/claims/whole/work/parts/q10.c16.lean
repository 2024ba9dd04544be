set_option maxHeartbeats 4000000 in
set_option maxRecDepth 100000 in
theorem lawW_c16 {p : Program} {l : Launch} {e : Env} {s : State} {m : MethodId} {below : List Frame} {meth : Method} {c : Code} {b L : Nat} {xs : Nat → Int32} (hL : L ≤ 3584) (C0 : lw_At p s m meth c b L xs) {N : Nat} (hN1 : 2 ^ 64 ≤ N) (dC : Nat → ClassId) (dI : Nat → Nat → Nat) (q0 x_q7 x_q19 x_q5_23 x_q8_9_23 x_q16_23 x_q8_20_23 x_q17_20_23 x_q28_23 q8 y_q8 y_q17 y_q26 y_q35 y_q43 y_q51 y_q59 y_q67 y_q75 y_q83 y_q92 y_q100 : Nat) (x_k7 x_k8_9_23 x_k8_20_23 x_k17_20_23 x_k28_23 y_k8 y_k17 y_k26 y_k35 y_k43 y_k51 y_k59 y_k67 y_k75 y_k83 y_k92 y_k100 : ClassId) {A : Nat → Prop} (hAe : A = fun q => s.heap.size ≤ q) (hN : nw_all s) (hK : va_K (dC, dI) vwCl [(x_k7, .object "PointRings$Curve"), (x_k8_9_23, .int), (x_k8_20_23, .int), (x_k17_20_23, .int), (x_k28_23, .int), (y_k8, .int), (y_k17, .int), (y_k26, .int), (y_k35, .int), (y_k43, .int), (y_k51, .int), (y_k59, .int), (y_k67, .int), (y_k75, .int), (y_k83, .int), (y_k92, .boolean), (y_k100, .boolean)] s) {i9 : Int32} {I9 : Nat} (ei : i9 = nI I9) (hI9 : I9 + 7 ≤ L) {cells slots : Nat} (hcs : cells ≤ 1000) (hss : slots ≤ 100000) (Co : ∀ (H1 : Heap) (locs1 : List Loc) (cells1 slots1 : Nat) (ls1 : Array Slot), wOK dC dI q0 x_q7 x_q19 x_q5_23 x_q8_9_23 x_q16_23 x_q8_20_23 x_q17_20_23 x_q28_23 q8 y_q8 y_q17 y_q26 y_q35 y_q43 y_q51 y_q59 y_q67 y_q75 y_q83 y_q92 y_q100 x_k7 x_k8_9_23 x_k8_20_23 x_k17_20_23 x_k28_23 y_k8 y_k17 y_k26 y_k35 y_k43 y_k51 y_k59 y_k67 y_k75 y_k83 y_k92 y_k100 A s H1 locs1 → lv_has ls1 4 [(0, .ref b), (1, .ref q0), (2, .ref q8), (3, .int i9)] → cells1 ≤ cells + 1 → slots1 ≤ slots + 12 → W p l e room_1 s m #[Value.ref b] below meth c H1 locs1 cells1 slots1 (lw_Z below #[Value.ref b] s) (F0 m 1739 ls1 [])) (H : Heap) (locs : List Loc) (ls : Array Slot) (hW : wOK dC dI q0 x_q7 x_q19 x_q5_23 x_q8_9_23 x_q16_23 x_q8_20_23 x_q17_20_23 x_q28_23 q8 y_q8 y_q17 y_q26 y_q35 y_q43 y_q51 y_q59 y_q67 y_q75 y_q83 y_q92 y_q100 x_k7 x_k8_9_23 x_k8_20_23 x_k17_20_23 x_k28_23 y_k8 y_k17 y_k26 y_k35 y_k43 y_k51 y_k59 y_k67 y_k75 y_k83 y_k92 y_k100 A s H locs) (hl : lv_has ls 4 [(0, .ref b), (1, .ref q0), (2, .ref q8), (3, .int i9)]) : W p l e room_1 s m #[Value.ref b] below meth c H locs cells slots (lw_Z below #[Value.ref b] s) (F0 m 822 ls []) := by
  obtain ⟨hx, hb, hr, hml, hown, hts, hX, hbl, hlocks, hgv⟩ := id C0
  have hbA : ¬ A b := by rw [hAe]; exact Nat.not_le.mpr hbl
  have hA0 : ∀ q : Nat, s.heap.size ≤ q → A q := fun q h => by rw [hAe]; exact h
  obtain ⟨sz, hd, pr, gl, lo, od, re, ba, sa, en, hz, p_, a_, b_, rt, pm, cu, f_, g_, pts, ah, ps, as_, bs, fr, kp, ko, mk, sn, Lp, Fp, hR, hP, hD, hS⟩ := hW
  have hP : va_P (dC, dI) vwCl ([(q0, .inr (4, [.ref x_q7, .int sz, .ref x_q19])), (x_q7, .inl (x_k7, 24, .inr (.inr (.inr (.inr hd))))), (x_q19, .inr (3, [.ref x_q5_23, .ref x_q16_23, .ref x_q28_23])), (x_q5_23, .inr (1, [.ref x_q8_9_23, .int pr])), (x_q8_9_23, .inl (x_k8_9_23, 10007, .inl gl)), (x_q16_23, .inr (2, [.ref x_q8_20_23, .ref x_q17_20_23, va_rf lo, .int od, .int re, .int ba])), (x_q8_20_23, .inl (x_k8_20_23, 10007, .inl sa)), (x_q17_20_23, .inl (x_k17_20_23, 128, .inl en)), (x_q28_23, .inl (x_k28_23, 4, .inl hz)), (q8, .inr (5, [.int p_, .int a_, .int b_, .ref y_q8, .ref y_q17, .int rt, .ref y_q26, .int pm, .ref y_q35, .int cu, .ref y_q43, .ref y_q51, .ref y_q59, .ref y_q67, .ref y_q75, .ref y_q83, .ref y_q92, .ref y_q100])), (y_q8, .inl (y_k8, 10008, .inl f_)), (y_q17, .inl (y_k17, 10008, .inl g_)), (y_q26, .inl (y_k26, 10300, .inl pts)), (y_q35, .inl (y_k35, 10008, .inl ah)), (y_q43, .inl (y_k43, 24, .inl ps)), (y_q51, .inl (y_k51, 24, .inl as_)), (y_q59, .inl (y_k59, 24, .inl bs)), (y_q67, .inl (y_k67, 24, .inl fr)), (y_q75, .inl (y_k75, 24, .inl kp)), (y_q83, .inl (y_k83, 24, .inl ko)), (y_q92, .inl (y_k92, 10300, .inl mk)), (y_q100, .inl (y_k100, 64, .inl sn))] ++ va_pl Lp Fp) H := hP
  have hD : va_D A ([(q0, .inr (4, [.ref x_q7, .int sz, .ref x_q19])), (x_q7, .inl (x_k7, 24, .inr (.inr (.inr (.inr hd))))), (x_q19, .inr (3, [.ref x_q5_23, .ref x_q16_23, .ref x_q28_23])), (x_q5_23, .inr (1, [.ref x_q8_9_23, .int pr])), (x_q8_9_23, .inl (x_k8_9_23, 10007, .inl gl)), (x_q16_23, .inr (2, [.ref x_q8_20_23, .ref x_q17_20_23, va_rf lo, .int od, .int re, .int ba])), (x_q8_20_23, .inl (x_k8_20_23, 10007, .inl sa)), (x_q17_20_23, .inl (x_k17_20_23, 128, .inl en)), (x_q28_23, .inl (x_k28_23, 4, .inl hz)), (q8, .inr (5, [.int p_, .int a_, .int b_, .ref y_q8, .ref y_q17, .int rt, .ref y_q26, .int pm, .ref y_q35, .int cu, .ref y_q43, .ref y_q51, .ref y_q59, .ref y_q67, .ref y_q75, .ref y_q83, .ref y_q92, .ref y_q100])), (y_q8, .inl (y_k8, 10008, .inl f_)), (y_q17, .inl (y_k17, 10008, .inl g_)), (y_q26, .inl (y_k26, 10300, .inl pts)), (y_q35, .inl (y_k35, 10008, .inl ah)), (y_q43, .inl (y_k43, 24, .inl ps)), (y_q51, .inl (y_k51, 24, .inl as_)), (y_q59, .inl (y_k59, 24, .inl bs)), (y_q67, .inl (y_k67, 24, .inl fr)), (y_q75, .inl (y_k75, 24, .inl kp)), (y_q83, .inl (y_k83, 24, .inl ko)), (y_q92, .inl (y_k92, 10300, .inl mk)), (y_q100, .inl (y_k100, 64, .inl sn))] ++ va_pl Lp Fp) := hD
  obtain ⟨hTb, hSD, hCR⟩ := hR.tab
  refine lv_aload_n hx hb dL_law_822 rfl (lv_at hl 1 rfl) ?_
  refine lv_aload_n hx hb dL_law_823 rfl (lv_at hl 0 rfl) ?_
  refine lv_iload_n hx hb dL_law_824 rfl (lv_at hl 3 rfl) ?_
  refine lv_iconst (v := 1) hx hb dL_law_825 (by decide) ?_
  refine lv_iadd hx hb dL_law_826 ?_
  refine va_sld hx hb hX hbl hbA hS (wl_in1 ei hI9 hL) dL_law_827 ?_
  refine lv_topi (fun s1 es1 => ?_)
  refine lv_aload_n hx hb dL_law_828 rfl (lv_at hl 0 rfl) ?_
  refine lv_iload_n hx hb dL_law_829 rfl (lv_at hl 3 rfl) ?_
  refine lv_iconst (v := 2) hx hb dL_law_830 (by decide) ?_
  refine lv_iadd hx hb dL_law_831 ?_
  refine va_sld hx hb hX hbl hbA hS (wl_in2 ei hI9 hL) dL_law_832 ?_
  refine lv_topi (fun s2 es2 => ?_)
  refine lv_aload_n hx hb dL_law_833 rfl (lv_at hl 0 rfl) ?_
  refine lv_iload_n hx hb dL_law_834 rfl (lv_at hl 3 rfl) ?_
  refine lv_iconst (v := 3) hx hb dL_law_835 (by decide) ?_
  refine lv_iadd hx hb dL_law_836 ?_
  refine va_sld hx hb hX hbl hbA hS (wl_in3 ei hI9 hL) dL_law_837 ?_
  refine lv_topi (fun s3 es3 => ?_)
  refine lv_i2l hx hb dL_law_838 rfl ?_
  refine lv_bipush (v := 32) hx hb dL_law_839 (by decide) ?_
  refine lv_lshl hx hb dL_law_841 rfl ?_
  refine lv_aload_n hx hb dL_law_842 rfl (lv_at hl 0 rfl) ?_
  refine lv_iload_n hx hb dL_law_843 rfl (lv_at hl 3 rfl) ?_
  refine lv_iconst (v := 4) hx hb dL_law_844 (by decide) ?_
  refine lv_iadd hx hb dL_law_845 ?_
  refine va_sld hx hb hX hbl hbA hS (wl_in4 ei hI9 hL) dL_law_846 ?_
  refine lv_topi (fun s4 es4 => ?_)
  refine lv_i2l hx hb dL_law_847 rfl ?_
  refine lv_ldc2 (v := 4294967295) hx hb hown (hts (.constantLong R_law 44 4294967295) (by decide +kernel)) dL_law_848 ?_
  refine lv_land hx hb dL_law_851 ?_
  refine lv_lor hx hb dL_law_852 ?_
  refine lv_topl (fun w852 ew852 => ?_)
  rcases RW.look hN1 hR s1 with ⟨hk0, hin, hhas⟩ | ⟨y0, P9, A9, B9, ff, kk, oo, qq, ii, ot, mf, fi, se, pm1, f1, g1, hy, hk0, hF, hCK, hdi, hh, hU, hix, up⟩
  · have hPc := hP.sub (ws' := [(q0, .inr (4, [.ref x_q7, .int sz, .ref x_q19])), (x_q7, .inl (x_k7, 24, .inr (.inr (.inr (.inr hd)))))]) [0, 1] rfl
    have hKc := hK.sub (tys' := [(x_k7, .object "PointRings$Curve")]) [0] rfl
    refine vp_callSi (W.runV (As := [.int s1, .int s2, .long w852]) (rest := []) ⟨hx, hb, hml, hown, hts⟩ (ctX5_times_n l N dC dI  q0 x_q7 x_q19 x_k7 sz hd s1 s2 w852 (-2) rfl hk0) (cwV 3 hts gL_X5_times_n rfl rfl rfl (by decide +kernel) ⟨Nat.le_of_ble_eq_true rfl, Nat.le_of_ble_eq_true rfl⟩) ⟨fun a U g mk q => by obtain ⟨q0, qP, qK, qN⟩ := q; exact ⟨q0, qP, va_K.moved (u := U) (U := U.calling g mk a) (Vm.Alike.refl U.vm) qK, nw_same (u := U) (U := U.calling g mk a) rfl qN⟩, va_recv hKc hPc (ci := 4) (q0 := 0) rfl rfl, fun U hU hW => ⟨rfl, by rw [hU]; exact hPc, va_K.moved hW.alike hKc, nw_warm hW hN⟩⟩ rfl rfl hl.1 rfl (lv_room (Nat.le_of_ble_eq_true rfl)) dL_law_853 ⟨by show _ + _ ≤ 600000; omega, by show _ + _ ≤ 7302250; omega⟩) (fun q9 eq9 => ?_)
    subst q9
    obtain ⟨z9, hm, hz9⟩ : ∃ z, mX6_times N p_ a_ b_ rt pm cu f_ g_ ps as_ bs s1 s2 w852 = some z ∧ z = ((-2), p_, a_, b_, rt, pm, f_, g_) := ⟨_, by unfold mX6_times; rw [hhas]; rfl, rfl⟩
    subst hz9
    refine lv_aload_n hx hb dL_law_856 rfl (lv_at hl 2 rfl) ?_
    refine lv_aload_n hx hb dL_law_857 rfl (lv_at hl 0 rfl) ?_
    refine lv_iload_n hx hb dL_law_858 rfl (lv_at hl 3 rfl) ?_
    refine lv_iconst (v := 1) hx hb dL_law_859 (by decide) ?_
    refine lv_iadd hx hb dL_law_860 ?_
    refine va_sld hx hb hX hbl hbA hS (wl_in1 ei hI9 hL) dL_law_861 ?_
    rw [← es1]
    refine lv_aload_n hx hb dL_law_862 rfl (lv_at hl 0 rfl) ?_
    refine lv_iload_n hx hb dL_law_863 rfl (lv_at hl 3 rfl) ?_
    refine lv_iconst (v := 2) hx hb dL_law_864 (by decide) ?_
    refine lv_iadd hx hb dL_law_865 ?_
    refine va_sld hx hb hX hbl hbA hS (wl_in2 ei hI9 hL) dL_law_866 ?_
    rw [← es2]
    refine lv_aload_n hx hb dL_law_867 rfl (lv_at hl 0 rfl) ?_
    refine lv_iload_n hx hb dL_law_868 rfl (lv_at hl 3 rfl) ?_
    refine lv_iconst (v := 3) hx hb dL_law_869 (by decide) ?_
    refine lv_iadd hx hb dL_law_870 ?_
    refine va_sld hx hb hX hbl hbA hS (wl_in3 ei hI9 hL) dL_law_871 ?_
    rw [← es3]
    refine lv_i2l hx hb dL_law_872 rfl ?_
    refine lv_bipush (v := 32) hx hb dL_law_873 (by decide) ?_
    refine lv_lshl hx hb dL_law_875 rfl ?_
    refine lv_aload_n hx hb dL_law_876 rfl (lv_at hl 0 rfl) ?_
    refine lv_iload_n hx hb dL_law_877 rfl (lv_at hl 3 rfl) ?_
    refine lv_iconst (v := 4) hx hb dL_law_878 (by decide) ?_
    refine lv_iadd hx hb dL_law_879 ?_
    refine va_sld hx hb hX hbl hbA hS (wl_in4 ei hI9 hL) dL_law_880 ?_
    rw [← es4]
    refine lv_i2l hx hb dL_law_881 rfl ?_
    refine lv_ldc2 (v := 4294967295) hx hb hown (hts (.constantLong R_law 44 4294967295) (by decide +kernel)) dL_law_882 ?_
    refine lv_land hx hb dL_law_885 ?_
    refine lv_lor hx hb dL_law_886 ?_
    rw [← ew852]
    obtain ⟨r474, hr474⟩ : ∃ z, mX6_times N p_ a_ b_ rt pm cu f_ g_ ps as_ bs s1 s2 w852 = some z := ⟨_, hm⟩
    have hPc := hP.sub (ws' := [(q8, .inr (5, [.int p_, .int a_, .int b_, .ref y_q8, .ref y_q17, .int rt, .ref y_q26, .int pm, .ref y_q35, .int cu, .ref y_q43, .ref y_q51, .ref y_q59, .ref y_q67, .ref y_q75, .ref y_q83, .ref y_q92, .ref y_q100])), (y_q8, .inl (y_k8, 10008, .inl f_)), (y_q17, .inl (y_k17, 10008, .inl g_)), (y_q43, .inl (y_k43, 24, .inl ps)), (y_q51, .inl (y_k51, 24, .inl as_)), (y_q59, .inl (y_k59, 24, .inl bs))]) [9, 10, 11, 14, 15, 16] rfl
    have hDc := hD.sub (ws' := [(q8, .inr (5, [.int p_, .int a_, .int b_, .ref y_q8, .ref y_q17, .int rt, .ref y_q26, .int pm, .ref y_q35, .int cu, .ref y_q43, .ref y_q51, .ref y_q59, .ref y_q67, .ref y_q75, .ref y_q83, .ref y_q92, .ref y_q100])), (y_q8, .inl (y_k8, 10008, .inl f_)), (y_q17, .inl (y_k17, 10008, .inl g_)), (y_q43, .inl (y_k43, 24, .inl ps)), (y_q51, .inl (y_k51, 24, .inl as_)), (y_q59, .inl (y_k59, 24, .inl bs))]) [9, 10, 11, 14, 15, 16] (by decide) rfl
    have hKc := hK.sub (tys' := [(y_k8, .int), (y_k17, .int), (y_k43, .int), (y_k51, .int), (y_k59, .int)]) [5, 6, 9, 10, 11] rfl
    have hFc := va_free (wc := [(q8, .inr (5, [.int p_, .int a_, .int b_, .ref y_q8, .ref y_q17, .int rt, .ref y_q26, .int pm, .ref y_q35, .int cu, .ref y_q43, .ref y_q51, .ref y_q59, .ref y_q67, .ref y_q75, .ref y_q83, .ref y_q92, .ref y_q100])), (y_q8, .inl (y_k8, 10008, .inl f_)), (y_q17, .inl (y_k17, 10008, .inl g_)), (y_q43, .inl (y_k43, 24, .inl ps)), (y_q51, .inl (y_k51, 24, .inl as_)), (y_q59, .inl (y_k59, 24, .inl bs))]) hD hS hA0 [9, 10, 11, 14, 15, 16] rfl
    refine va_calli (va_runV (As := [.int s1, .int s2, .long w852]) (rest := [.int (-2)]) ⟨hx, hb, hml, hown, hts⟩ (ctX6_times l N dC dI _ q8 y_q8 y_q17 y_q43 y_q51 y_q59 y_q26 y_q35 y_q67 y_q75 y_q83 y_q92 y_q100 y_k8 y_k17 y_k43 y_k51 y_k59 p_ a_ b_ rt pm cu f_ g_ ps as_ bs s1 s2 w852 r474 hr474) (cwV 3 hts gL_X6_times rfl rfl rfl (by decide +kernel) ⟨Nat.le_of_ble_eq_true rfl, Nat.le_of_ble_eq_true rfl⟩) ⟨fun a U g mk q => by obtain ⟨q0, q1, qP, qK, qN, qD⟩ := q; exact ⟨q0, q1, qP, va_K.moved (u := U) (U := U.calling g mk a) (Vm.Alike.refl U.vm) qK, nw_same (u := U) (U := U.calling g mk a) rfl qN, qD⟩, va_recv hKc hPc (ci := 5) (q0 := 0) rfl rfl, fun U hU hW => ⟨rfl, by rw [hU], by rw [hU]; exact hPc, va_K.moved hW.alike hKc, nw_warm hW hN, hDc.weaken (fun _ _ _ _ => trivial)⟩⟩ rfl rfl hl.1 rfl (lv_room (Nat.le_of_ble_eq_true rfl)) dL_law_887 ⟨by show _ + _ ≤ 600000; omega, by show _ + _ ≤ 7302250; omega⟩) hS (fun q _ h => hFc q h) hFc (fun rz u t H1 locs ht hvm hw hB1 hz1 hk1 hS => ?_)
    obtain ⟨u475, u476, u477, u478, u479, f480, f481⟩ := u
    obtain ⟨hP1, hK1, hD1⟩ := hB1
    rw [ht] at hP1
    have hK1 := va_K.moved hvm.symm hK1
    obtain ⟨r482, rfl⟩ : ∃ z, z = rz := ⟨_, rfl⟩
    subst hw
    obtain ⟨hP, hD⟩ := va_joinQ (X := [(q0, .inr (4, [.ref x_q7, .int sz, .ref x_q19])), (x_q7, .inl (x_k7, 24, .inr (.inr (.inr (.inr hd))))), (x_q19, .inr (3, [.ref x_q5_23, .ref x_q16_23, .ref x_q28_23])), (x_q5_23, .inr (1, [.ref x_q8_9_23, .int pr])), (x_q8_9_23, .inl (x_k8_9_23, 10007, .inl gl)), (x_q16_23, .inr (2, [.ref x_q8_20_23, .ref x_q17_20_23, va_rf lo, .int od, .int re, .int ba])), (x_q8_20_23, .inl (x_k8_20_23, 10007, .inl sa)), (x_q17_20_23, .inl (x_k17_20_23, 128, .inl en)), (x_q28_23, .inl (x_k28_23, 4, .inl hz)), (q8, .inr (5, [.int p_, .int a_, .int b_, .ref y_q8, .ref y_q17, .int rt, .ref y_q26, .int pm, .ref y_q35, .int cu, .ref y_q43, .ref y_q51, .ref y_q59, .ref y_q67, .ref y_q75, .ref y_q83, .ref y_q92, .ref y_q100])), (y_q8, .inl (y_k8, 10008, .inl f_)), (y_q17, .inl (y_k17, 10008, .inl g_)), (y_q26, .inl (y_k26, 10300, .inl pts)), (y_q35, .inl (y_k35, 10008, .inl ah)), (y_q43, .inl (y_k43, 24, .inl ps)), (y_q51, .inl (y_k51, 24, .inl as_)), (y_q59, .inl (y_k59, 24, .inl bs)), (y_q67, .inl (y_k67, 24, .inl fr)), (y_q75, .inl (y_k75, 24, .inl kp)), (y_q83, .inl (y_k83, 24, .inl ko)), (y_q92, .inl (y_k92, 10300, .inl mk)), (y_q100, .inl (y_k100, 64, .inl sn))]) (pl := va_pl Lp Fp) (wr := [(q0, .inr (4, [.ref x_q7, .int sz, .ref x_q19])), (x_q7, .inl (x_k7, 24, .inr (.inr (.inr (.inr hd))))), (x_q19, .inr (3, [.ref x_q5_23, .ref x_q16_23, .ref x_q28_23])), (x_q5_23, .inr (1, [.ref x_q8_9_23, .int pr])), (x_q8_9_23, .inl (x_k8_9_23, 10007, .inl gl)), (x_q16_23, .inr (2, [.ref x_q8_20_23, .ref x_q17_20_23, va_rf lo, .int od, .int re, .int ba])), (x_q8_20_23, .inl (x_k8_20_23, 10007, .inl sa)), (x_q17_20_23, .inl (x_k17_20_23, 128, .inl en)), (x_q28_23, .inl (x_k28_23, 4, .inl hz)), (y_q26, .inl (y_k26, 10300, .inl pts)), (y_q35, .inl (y_k35, 10008, .inl ah)), (y_q67, .inl (y_k67, 24, .inl fr)), (y_q75, .inl (y_k75, 24, .inl kp)), (y_q83, .inl (y_k83, 24, .inl ko)), (y_q92, .inl (y_k92, 10300, .inl mk)), (y_q100, .inl (y_k100, 64, .inl sn))]) (w1 := [(q8, .inr (5, [.int u475, .int u476, .int u477, .ref y_q8, .ref y_q17, .int u478, .ref y_q26, .int u479, .ref y_q35, .int cu, .ref y_q43, .ref y_q51, .ref y_q59, .ref y_q67, .ref y_q75, .ref y_q83, .ref y_q92, .ref y_q100])), (y_q8, .inl (y_k8, 10008, .inl f480)), (y_q17, .inl (y_k17, 10008, .inl f481)), (y_q43, .inl (y_k43, 24, .inl ps)), (y_q51, .inl (y_k51, 24, .inl as_)), (y_q59, .inl (y_k59, 24, .inl bs))]) hP hD [9, 10, 11, 14, 15, 16] [0, 1, 2, 3, 4, 5, 6, 7, 8, 12, 13, 17, 18, 19, 20, 21] rfl rfl (by decide) (by decide) hk1 hFc hP1 hD1
    generalize H1 = H at hP hS ⊢
    have hP := vaP_subQ (X := [(q0, .inr (4, [.ref x_q7, .int sz, .ref x_q19])), (x_q7, .inl (x_k7, 24, .inr (.inr (.inr (.inr hd))))), (x_q19, .inr (3, [.ref x_q5_23, .ref x_q16_23, .ref x_q28_23])), (x_q5_23, .inr (1, [.ref x_q8_9_23, .int pr])), (x_q8_9_23, .inl (x_k8_9_23, 10007, .inl gl)), (x_q16_23, .inr (2, [.ref x_q8_20_23, .ref x_q17_20_23, va_rf lo, .int od, .int re, .int ba])), (x_q8_20_23, .inl (x_k8_20_23, 10007, .inl sa)), (x_q17_20_23, .inl (x_k17_20_23, 128, .inl en)), (x_q28_23, .inl (x_k28_23, 4, .inl hz)), (q8, .inr (5, [.int u475, .int u476, .int u477, .ref y_q8, .ref y_q17, .int u478, .ref y_q26, .int u479, .ref y_q35, .int cu, .ref y_q43, .ref y_q51, .ref y_q59, .ref y_q67, .ref y_q75, .ref y_q83, .ref y_q92, .ref y_q100])), (y_q8, .inl (y_k8, 10008, .inl f480)), (y_q17, .inl (y_k17, 10008, .inl f481)), (y_q26, .inl (y_k26, 10300, .inl pts)), (y_q35, .inl (y_k35, 10008, .inl ah)), (y_q43, .inl (y_k43, 24, .inl ps)), (y_q51, .inl (y_k51, 24, .inl as_)), (y_q59, .inl (y_k59, 24, .inl bs)), (y_q67, .inl (y_k67, 24, .inl fr)), (y_q75, .inl (y_k75, 24, .inl kp)), (y_q83, .inl (y_k83, 24, .inl ko)), (y_q92, .inl (y_k92, 10300, .inl mk)), (y_q100, .inl (y_k100, 64, .inl sn))]) hP [0, 1, 2, 3, 4, 5, 6, 7, 8, 16, 17, 18, 9, 10, 19, 20, 21, 11, 12, 13, 14, 15] rfl
    have hD := vaD_subQ (X := [(q0, .inr (4, [.ref x_q7, .int sz, .ref x_q19])), (x_q7, .inl (x_k7, 24, .inr (.inr (.inr (.inr hd))))), (x_q19, .inr (3, [.ref x_q5_23, .ref x_q16_23, .ref x_q28_23])), (x_q5_23, .inr (1, [.ref x_q8_9_23, .int pr])), (x_q8_9_23, .inl (x_k8_9_23, 10007, .inl gl)), (x_q16_23, .inr (2, [.ref x_q8_20_23, .ref x_q17_20_23, va_rf lo, .int od, .int re, .int ba])), (x_q8_20_23, .inl (x_k8_20_23, 10007, .inl sa)), (x_q17_20_23, .inl (x_k17_20_23, 128, .inl en)), (x_q28_23, .inl (x_k28_23, 4, .inl hz)), (q8, .inr (5, [.int u475, .int u476, .int u477, .ref y_q8, .ref y_q17, .int u478, .ref y_q26, .int u479, .ref y_q35, .int cu, .ref y_q43, .ref y_q51, .ref y_q59, .ref y_q67, .ref y_q75, .ref y_q83, .ref y_q92, .ref y_q100])), (y_q8, .inl (y_k8, 10008, .inl f480)), (y_q17, .inl (y_k17, 10008, .inl f481)), (y_q26, .inl (y_k26, 10300, .inl pts)), (y_q35, .inl (y_k35, 10008, .inl ah)), (y_q43, .inl (y_k43, 24, .inl ps)), (y_q51, .inl (y_k51, 24, .inl as_)), (y_q59, .inl (y_k59, 24, .inl bs)), (y_q67, .inl (y_k67, 24, .inl fr)), (y_q75, .inl (y_k75, 24, .inl kp)), (y_q83, .inl (y_k83, 24, .inl ko)), (y_q92, .inl (y_k92, 10300, .inl mk)), (y_q100, .inl (y_k100, 64, .inl sn))]) hD [0, 1, 2, 3, 4, 5, 6, 7, 8, 16, 17, 18, 9, 10, 19, 20, 21, 11, 12, 13, 14, 15] (by decide) rfl
    have h9 := hr474.symm.trans hm
    cases h9
    refine lv_icmp_eq (tgt := 1739) hx hb dL_law_890 (by decide) (fun c9 => ?_) (fun c9 => absurd rfl c9)
    exact Co _ _ _ _ _ (wOK_mk (hR) hP hD hS) hl (by omega) (by omega)
  · obtain ⟨hq, hI, hM⟩ := hCK
    have hp9 := hU.pos
    have hp9 : isp P9 ∧ 5 ≤ P9 ∧ P9 ≤ 10007 ∧ A9 < P9 ∧ B9 < P9 := ⟨hp9.2.2.2.1, hp9.2.2.1, hp9.2.1, hp9.2.2.2.2.1, hp9.2.2.2.2.2⟩
    obtain ⟨r9, hv, hm⟩ := V_times hN1 hh hU hdi s2 w852
    have hP8 : va_P (dC, dI) vwCl ([(q0, .inr (4, [.ref x_q7, .int sz, .ref x_q19])), (x_q7, .inl (x_k7, 24, .inr (.inr (.inr (.inr hd))))), (x_q19, .inr (3, [.ref x_q5_23, .ref x_q16_23, .ref x_q28_23])), (x_q5_23, .inr (1, [.ref x_q8_9_23, .int pr])), (x_q8_9_23, .inl (x_k8_9_23, 10007, .inl gl)), (x_q16_23, .inr (2, [.ref x_q8_20_23, .ref x_q17_20_23, va_rf lo, .int od, .int re, .int ba])), (x_q8_20_23, .inl (x_k8_20_23, 10007, .inl sa)), (x_q17_20_23, .inl (x_k17_20_23, 128, .inl en)), (x_q28_23, .inl (x_k28_23, 4, .inl hz)), (q8, .inr (5, [.int p_, .int a_, .int b_, .ref y_q8, .ref y_q17, .int rt, .ref y_q26, .int pm, .ref y_q35, .int cu, .ref y_q43, .ref y_q51, .ref y_q59, .ref y_q67, .ref y_q75, .ref y_q83, .ref y_q92, .ref y_q100])), (y_q8, .inl (y_k8, 10008, .inl f_)), (y_q17, .inl (y_k17, 10008, .inl g_)), (y_q26, .inl (y_k26, 10300, .inl pts)), (y_q35, .inl (y_k35, 10008, .inl ah)), (y_q43, .inl (y_k43, 24, .inl ps)), (y_q51, .inl (y_k51, 24, .inl as_)), (y_q59, .inl (y_k59, 24, .inl bs)), (y_q67, .inl (y_k67, 24, .inl fr)), (y_q75, .inl (y_k75, 24, .inl kp)), (y_q83, .inl (y_k83, 24, .inl ko)), (y_q92, .inl (y_k92, 10300, .inl mk)), (y_q100, .inl (y_k100, 64, .inl sn)), (y0, .inr (0, [.int (nI P9), .int (nI A9), .int (nI B9), .int ff, .int kk, .int oo, .int qq, .int ii, .int ot, .int mf, .int fi, .int se]))] ++ va_pl (Lp.erase y0) Fp) H := by have z := vaP_perm (pl_perm hy) hP; rw [hF] at z; exact z
    have hD8 : va_D A ([(q0, .inr (4, [.ref x_q7, .int sz, .ref x_q19])), (x_q7, .inl (x_k7, 24, .inr (.inr (.inr (.inr hd))))), (x_q19, .inr (3, [.ref x_q5_23, .ref x_q16_23, .ref x_q28_23])), (x_q5_23, .inr (1, [.ref x_q8_9_23, .int pr])), (x_q8_9_23, .inl (x_k8_9_23, 10007, .inl gl)), (x_q16_23, .inr (2, [.ref x_q8_20_23, .ref x_q17_20_23, va_rf lo, .int od, .int re, .int ba])), (x_q8_20_23, .inl (x_k8_20_23, 10007, .inl sa)), (x_q17_20_23, .inl (x_k17_20_23, 128, .inl en)), (x_q28_23, .inl (x_k28_23, 4, .inl hz)), (q8, .inr (5, [.int p_, .int a_, .int b_, .ref y_q8, .ref y_q17, .int rt, .ref y_q26, .int pm, .ref y_q35, .int cu, .ref y_q43, .ref y_q51, .ref y_q59, .ref y_q67, .ref y_q75, .ref y_q83, .ref y_q92, .ref y_q100])), (y_q8, .inl (y_k8, 10008, .inl f_)), (y_q17, .inl (y_k17, 10008, .inl g_)), (y_q26, .inl (y_k26, 10300, .inl pts)), (y_q35, .inl (y_k35, 10008, .inl ah)), (y_q43, .inl (y_k43, 24, .inl ps)), (y_q51, .inl (y_k51, 24, .inl as_)), (y_q59, .inl (y_k59, 24, .inl bs)), (y_q67, .inl (y_k67, 24, .inl fr)), (y_q75, .inl (y_k75, 24, .inl kp)), (y_q83, .inl (y_k83, 24, .inl ko)), (y_q92, .inl (y_k92, 10300, .inl mk)), (y_q100, .inl (y_k100, 64, .inl sn)), (y0, .inr (0, [.int (nI P9), .int (nI A9), .int (nI B9), .int ff, .int kk, .int oo, .int qq, .int ii, .int ot, .int mf, .int fi, .int se]))] ++ va_pl (Lp.erase y0) Fp) := by have z := vaD_perm (pl_perm hy) hD; rw [hF] at z; exact z
    have hP7 := hP
    have hP := hP8
    obtain ⟨r483, hr483⟩ : ∃ z, mX5_times_s N (nI P9) (nI A9) (nI B9) s1 s2 w852 = some z := ⟨_, hv⟩
    have hPc := hP.sub (ws' := [(q0, .inr (4, [.ref x_q7, .int sz, .ref x_q19])), (x_q7, .inl (x_k7, 24, .inr (.inr (.inr (.inr hd))))), (y0, .inr (0, [.int (nI P9), .int (nI A9), .int (nI B9), .int ff, .int kk, .int oo, .int qq, .int ii, .int ot, .int mf, .int fi, .int se]))]) [0, 1, 22] rfl
    have hKc := hK.sub (tys' := [(x_k7, .object "PointRings$Curve")]) [0] rfl
    refine vp_callSi (W.runV (As := [.int s1, .int s2, .long w852]) (rest := []) ⟨hx, hb, hml, hown, hts⟩ (ctX5_times_s l N dC dI  q0 x_q7 y0 x_q19 x_k7 sz hd (nI P9) (nI A9) (nI B9) ff kk oo qq ii ot mf fi se s1 s2 w852 r483 hr483 hk0) (cwV 3 hts gL_X5_times rfl rfl rfl (by decide +kernel) ⟨Nat.le_of_ble_eq_true rfl, Nat.le_of_ble_eq_true rfl⟩) ⟨fun a U g mk q => by obtain ⟨q0, qP, qK, qN⟩ := q; exact ⟨q0, qP, va_K.moved (u := U) (U := U.calling g mk a) (Vm.Alike.refl U.vm) qK, nw_same (u := U) (U := U.calling g mk a) rfl qN⟩, va_recv hKc hPc (ci := 4) (q0 := 0) rfl rfl, fun U hU hW => ⟨rfl, by rw [hU]; exact hPc, va_K.moved hW.alike hKc, nw_warm hW hN⟩⟩ rfl rfl hl.1 rfl (lv_room (Nat.le_of_ble_eq_true rfl)) dL_law_853 ⟨by show _ + _ ≤ 600000; omega, by show _ + _ ≤ 7302250; omega⟩) (fun q9 eq9 => ?_)
    subst q9
    have hP := hP7
    refine lv_aload_n hx hb dL_law_856 rfl (lv_at hl 2 rfl) ?_
    refine lv_aload_n hx hb dL_law_857 rfl (lv_at hl 0 rfl) ?_
    refine lv_iload_n hx hb dL_law_858 rfl (lv_at hl 3 rfl) ?_
    refine lv_iconst (v := 1) hx hb dL_law_859 (by decide) ?_
    refine lv_iadd hx hb dL_law_860 ?_
    refine va_sld hx hb hX hbl hbA hS (wl_in1 ei hI9 hL) dL_law_861 ?_
    rw [← es1]
    refine lv_aload_n hx hb dL_law_862 rfl (lv_at hl 0 rfl) ?_
    refine lv_iload_n hx hb dL_law_863 rfl (lv_at hl 3 rfl) ?_
    refine lv_iconst (v := 2) hx hb dL_law_864 (by decide) ?_
    refine lv_iadd hx hb dL_law_865 ?_
    refine va_sld hx hb hX hbl hbA hS (wl_in2 ei hI9 hL) dL_law_866 ?_
    rw [← es2]
    refine lv_aload_n hx hb dL_law_867 rfl (lv_at hl 0 rfl) ?_
    refine lv_iload_n hx hb dL_law_868 rfl (lv_at hl 3 rfl) ?_
    refine lv_iconst (v := 3) hx hb dL_law_869 (by decide) ?_
    refine lv_iadd hx hb dL_law_870 ?_
    refine va_sld hx hb hX hbl hbA hS (wl_in3 ei hI9 hL) dL_law_871 ?_
    rw [← es3]
    refine lv_i2l hx hb dL_law_872 rfl ?_
    refine lv_bipush (v := 32) hx hb dL_law_873 (by decide) ?_
    refine lv_lshl hx hb dL_law_875 rfl ?_
    refine lv_aload_n hx hb dL_law_876 rfl (lv_at hl 0 rfl) ?_
    refine lv_iload_n hx hb dL_law_877 rfl (lv_at hl 3 rfl) ?_
    refine lv_iconst (v := 4) hx hb dL_law_878 (by decide) ?_
    refine lv_iadd hx hb dL_law_879 ?_
    refine va_sld hx hb hX hbl hbA hS (wl_in4 ei hI9 hL) dL_law_880 ?_
    rw [← es4]
    refine lv_i2l hx hb dL_law_881 rfl ?_
    refine lv_ldc2 (v := 4294967295) hx hb hown (hts (.constantLong R_law 44 4294967295) (by decide +kernel)) dL_law_882 ?_
    refine lv_land hx hb dL_law_885 ?_
    refine lv_lor hx hb dL_law_886 ?_
    rw [← ew852]
    obtain ⟨r484, hr484⟩ : ∃ z, mX6_times N p_ a_ b_ rt pm cu f_ g_ ps as_ bs s1 s2 w852 = some z := ⟨_, hm⟩
    have hPc := hP.sub (ws' := [(q8, .inr (5, [.int p_, .int a_, .int b_, .ref y_q8, .ref y_q17, .int rt, .ref y_q26, .int pm, .ref y_q35, .int cu, .ref y_q43, .ref y_q51, .ref y_q59, .ref y_q67, .ref y_q75, .ref y_q83, .ref y_q92, .ref y_q100])), (y_q8, .inl (y_k8, 10008, .inl f_)), (y_q17, .inl (y_k17, 10008, .inl g_)), (y_q43, .inl (y_k43, 24, .inl ps)), (y_q51, .inl (y_k51, 24, .inl as_)), (y_q59, .inl (y_k59, 24, .inl bs))]) [9, 10, 11, 14, 15, 16] rfl
    have hDc := hD.sub (ws' := [(q8, .inr (5, [.int p_, .int a_, .int b_, .ref y_q8, .ref y_q17, .int rt, .ref y_q26, .int pm, .ref y_q35, .int cu, .ref y_q43, .ref y_q51, .ref y_q59, .ref y_q67, .ref y_q75, .ref y_q83, .ref y_q92, .ref y_q100])), (y_q8, .inl (y_k8, 10008, .inl f_)), (y_q17, .inl (y_k17, 10008, .inl g_)), (y_q43, .inl (y_k43, 24, .inl ps)), (y_q51, .inl (y_k51, 24, .inl as_)), (y_q59, .inl (y_k59, 24, .inl bs))]) [9, 10, 11, 14, 15, 16] (by decide) rfl
    have hKc := hK.sub (tys' := [(y_k8, .int), (y_k17, .int), (y_k43, .int), (y_k51, .int), (y_k59, .int)]) [5, 6, 9, 10, 11] rfl
    have hFc := va_free (wc := [(q8, .inr (5, [.int p_, .int a_, .int b_, .ref y_q8, .ref y_q17, .int rt, .ref y_q26, .int pm, .ref y_q35, .int cu, .ref y_q43, .ref y_q51, .ref y_q59, .ref y_q67, .ref y_q75, .ref y_q83, .ref y_q92, .ref y_q100])), (y_q8, .inl (y_k8, 10008, .inl f_)), (y_q17, .inl (y_k17, 10008, .inl g_)), (y_q43, .inl (y_k43, 24, .inl ps)), (y_q51, .inl (y_k51, 24, .inl as_)), (y_q59, .inl (y_k59, 24, .inl bs))]) hD hS hA0 [9, 10, 11, 14, 15, 16] rfl
    refine va_calli (va_runV (As := [.int s1, .int s2, .long w852]) (rest := [.int r483]) ⟨hx, hb, hml, hown, hts⟩ (ctX6_times l N dC dI _ q8 y_q8 y_q17 y_q43 y_q51 y_q59 y_q26 y_q35 y_q67 y_q75 y_q83 y_q92 y_q100 y_k8 y_k17 y_k43 y_k51 y_k59 p_ a_ b_ rt pm cu f_ g_ ps as_ bs s1 s2 w852 r484 hr484) (cwV 3 hts gL_X6_times rfl rfl rfl (by decide +kernel) ⟨Nat.le_of_ble_eq_true rfl, Nat.le_of_ble_eq_true rfl⟩) ⟨fun a U g mk q => by obtain ⟨q0, q1, qP, qK, qN, qD⟩ := q; exact ⟨q0, q1, qP, va_K.moved (u := U) (U := U.calling g mk a) (Vm.Alike.refl U.vm) qK, nw_same (u := U) (U := U.calling g mk a) rfl qN, qD⟩, va_recv hKc hPc (ci := 5) (q0 := 0) rfl rfl, fun U hU hW => ⟨rfl, by rw [hU], by rw [hU]; exact hPc, va_K.moved hW.alike hKc, nw_warm hW hN, hDc.weaken (fun _ _ _ _ => trivial)⟩⟩ rfl rfl hl.1 rfl (lv_room (Nat.le_of_ble_eq_true rfl)) dL_law_887 ⟨by show _ + _ ≤ 600000; omega, by show _ + _ ≤ 7302250; omega⟩) hS (fun q _ h => hFc q h) hFc (fun rz u t H1 locs ht hvm hw hB1 hz1 hk1 hS => ?_)
    obtain ⟨u485, u486, u487, u488, u489, f490, f491⟩ := u
    obtain ⟨hP1, hK1, hD1⟩ := hB1
    rw [ht] at hP1
    have hK1 := va_K.moved hvm.symm hK1
    obtain ⟨r492, rfl⟩ : ∃ z, z = rz := ⟨_, rfl⟩
    subst hw
    obtain ⟨hP, hD⟩ := va_joinQ (X := [(q0, .inr (4, [.ref x_q7, .int sz, .ref x_q19])), (x_q7, .inl (x_k7, 24, .inr (.inr (.inr (.inr hd))))), (x_q19, .inr (3, [.ref x_q5_23, .ref x_q16_23, .ref x_q28_23])), (x_q5_23, .inr (1, [.ref x_q8_9_23, .int pr])), (x_q8_9_23, .inl (x_k8_9_23, 10007, .inl gl)), (x_q16_23, .inr (2, [.ref x_q8_20_23, .ref x_q17_20_23, va_rf lo, .int od, .int re, .int ba])), (x_q8_20_23, .inl (x_k8_20_23, 10007, .inl sa)), (x_q17_20_23, .inl (x_k17_20_23, 128, .inl en)), (x_q28_23, .inl (x_k28_23, 4, .inl hz)), (q8, .inr (5, [.int p_, .int a_, .int b_, .ref y_q8, .ref y_q17, .int rt, .ref y_q26, .int pm, .ref y_q35, .int cu, .ref y_q43, .ref y_q51, .ref y_q59, .ref y_q67, .ref y_q75, .ref y_q83, .ref y_q92, .ref y_q100])), (y_q8, .inl (y_k8, 10008, .inl f_)), (y_q17, .inl (y_k17, 10008, .inl g_)), (y_q26, .inl (y_k26, 10300, .inl pts)), (y_q35, .inl (y_k35, 10008, .inl ah)), (y_q43, .inl (y_k43, 24, .inl ps)), (y_q51, .inl (y_k51, 24, .inl as_)), (y_q59, .inl (y_k59, 24, .inl bs)), (y_q67, .inl (y_k67, 24, .inl fr)), (y_q75, .inl (y_k75, 24, .inl kp)), (y_q83, .inl (y_k83, 24, .inl ko)), (y_q92, .inl (y_k92, 10300, .inl mk)), (y_q100, .inl (y_k100, 64, .inl sn))]) (pl := va_pl Lp Fp) (wr := [(q0, .inr (4, [.ref x_q7, .int sz, .ref x_q19])), (x_q7, .inl (x_k7, 24, .inr (.inr (.inr (.inr hd))))), (x_q19, .inr (3, [.ref x_q5_23, .ref x_q16_23, .ref x_q28_23])), (x_q5_23, .inr (1, [.ref x_q8_9_23, .int pr])), (x_q8_9_23, .inl (x_k8_9_23, 10007, .inl gl)), (x_q16_23, .inr (2, [.ref x_q8_20_23, .ref x_q17_20_23, va_rf lo, .int od, .int re, .int ba])), (x_q8_20_23, .inl (x_k8_20_23, 10007, .inl sa)), (x_q17_20_23, .inl (x_k17_20_23, 128, .inl en)), (x_q28_23, .inl (x_k28_23, 4, .inl hz)), (y_q26, .inl (y_k26, 10300, .inl pts)), (y_q35, .inl (y_k35, 10008, .inl ah)), (y_q67, .inl (y_k67, 24, .inl fr)), (y_q75, .inl (y_k75, 24, .inl kp)), (y_q83, .inl (y_k83, 24, .inl ko)), (y_q92, .inl (y_k92, 10300, .inl mk)), (y_q100, .inl (y_k100, 64, .inl sn))]) (w1 := [(q8, .inr (5, [.int u485, .int u486, .int u487, .ref y_q8, .ref y_q17, .int u488, .ref y_q26, .int u489, .ref y_q35, .int cu, .ref y_q43, .ref y_q51, .ref y_q59, .ref y_q67, .ref y_q75, .ref y_q83, .ref y_q92, .ref y_q100])), (y_q8, .inl (y_k8, 10008, .inl f490)), (y_q17, .inl (y_k17, 10008, .inl f491)), (y_q43, .inl (y_k43, 24, .inl ps)), (y_q51, .inl (y_k51, 24, .inl as_)), (y_q59, .inl (y_k59, 24, .inl bs))]) hP hD [9, 10, 11, 14, 15, 16] [0, 1, 2, 3, 4, 5, 6, 7, 8, 12, 13, 17, 18, 19, 20, 21] rfl rfl (by decide) (by decide) hk1 hFc hP1 hD1
    generalize H1 = H at hP hS ⊢
    have hP := vaP_subQ (X := [(q0, .inr (4, [.ref x_q7, .int sz, .ref x_q19])), (x_q7, .inl (x_k7, 24, .inr (.inr (.inr (.inr hd))))), (x_q19, .inr (3, [.ref x_q5_23, .ref x_q16_23, .ref x_q28_23])), (x_q5_23, .inr (1, [.ref x_q8_9_23, .int pr])), (x_q8_9_23, .inl (x_k8_9_23, 10007, .inl gl)), (x_q16_23, .inr (2, [.ref x_q8_20_23, .ref x_q17_20_23, va_rf lo, .int od, .int re, .int ba])), (x_q8_20_23, .inl (x_k8_20_23, 10007, .inl sa)), (x_q17_20_23, .inl (x_k17_20_23, 128, .inl en)), (x_q28_23, .inl (x_k28_23, 4, .inl hz)), (q8, .inr (5, [.int u485, .int u486, .int u487, .ref y_q8, .ref y_q17, .int u488, .ref y_q26, .int u489, .ref y_q35, .int cu, .ref y_q43, .ref y_q51, .ref y_q59, .ref y_q67, .ref y_q75, .ref y_q83, .ref y_q92, .ref y_q100])), (y_q8, .inl (y_k8, 10008, .inl f490)), (y_q17, .inl (y_k17, 10008, .inl f491)), (y_q26, .inl (y_k26, 10300, .inl pts)), (y_q35, .inl (y_k35, 10008, .inl ah)), (y_q43, .inl (y_k43, 24, .inl ps)), (y_q51, .inl (y_k51, 24, .inl as_)), (y_q59, .inl (y_k59, 24, .inl bs)), (y_q67, .inl (y_k67, 24, .inl fr)), (y_q75, .inl (y_k75, 24, .inl kp)), (y_q83, .inl (y_k83, 24, .inl ko)), (y_q92, .inl (y_k92, 10300, .inl mk)), (y_q100, .inl (y_k100, 64, .inl sn))]) hP [0, 1, 2, 3, 4, 5, 6, 7, 8, 16, 17, 18, 9, 10, 19, 20, 21, 11, 12, 13, 14, 15] rfl
    have hD := vaD_subQ (X := [(q0, .inr (4, [.ref x_q7, .int sz, .ref x_q19])), (x_q7, .inl (x_k7, 24, .inr (.inr (.inr (.inr hd))))), (x_q19, .inr (3, [.ref x_q5_23, .ref x_q16_23, .ref x_q28_23])), (x_q5_23, .inr (1, [.ref x_q8_9_23, .int pr])), (x_q8_9_23, .inl (x_k8_9_23, 10007, .inl gl)), (x_q16_23, .inr (2, [.ref x_q8_20_23, .ref x_q17_20_23, va_rf lo, .int od, .int re, .int ba])), (x_q8_20_23, .inl (x_k8_20_23, 10007, .inl sa)), (x_q17_20_23, .inl (x_k17_20_23, 128, .inl en)), (x_q28_23, .inl (x_k28_23, 4, .inl hz)), (q8, .inr (5, [.int u485, .int u486, .int u487, .ref y_q8, .ref y_q17, .int u488, .ref y_q26, .int u489, .ref y_q35, .int cu, .ref y_q43, .ref y_q51, .ref y_q59, .ref y_q67, .ref y_q75, .ref y_q83, .ref y_q92, .ref y_q100])), (y_q8, .inl (y_k8, 10008, .inl f490)), (y_q17, .inl (y_k17, 10008, .inl f491)), (y_q26, .inl (y_k26, 10300, .inl pts)), (y_q35, .inl (y_k35, 10008, .inl ah)), (y_q43, .inl (y_k43, 24, .inl ps)), (y_q51, .inl (y_k51, 24, .inl as_)), (y_q59, .inl (y_k59, 24, .inl bs)), (y_q67, .inl (y_k67, 24, .inl fr)), (y_q75, .inl (y_k75, 24, .inl kp)), (y_q83, .inl (y_k83, 24, .inl ko)), (y_q92, .inl (y_k92, 10300, .inl mk)), (y_q100, .inl (y_k100, 64, .inl sn))]) hD [0, 1, 2, 3, 4, 5, 6, 7, 8, 16, 17, 18, 9, 10, 19, 20, 21, 11, 12, 13, 14, 15] (by decide) rfl
    have h8 := hr483.symm.trans hv
    cases h8
    have h9 := hr484.symm.trans hm
    cases h9
    refine lv_icmp_eq (tgt := 1739) hx hb dL_law_890 (by decide) (fun c9 => ?_) (fun c9 => absurd rfl c9)
    exact Co _ _ _ _ _ (wOK_mk (hR.cur hTb hSD (Or.inr ⟨_, _, _, hU⟩)) hP hD hS) hl (by omega) (by omega)
