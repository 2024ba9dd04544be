theorem l1_vin {L : Nat} (h : L = 7) {i : Int32} (hi : vp_in i 7) : vp_in i L := by
  rw [h]
  exact hi
set_option maxHeartbeats 4000000 in
set_option maxRecDepth 100000 in
theorem law1_out {p : Program} {l : Launch} {e : Env} {s : State} {m : MethodId} {below : List Frame} {meth : Method} {c : Code} {b L : Nat} {xs : Nat → Int32} (C0 : lw_At p s m meth c b L xs) {A : Nat → Prop} (hAe : A = fun q => s.heap.size ≤ q) {H : Heap} {locs : List Loc} {cells slots : Nat} (hcs : cells ≤ 600000) (hss : slots ≤ 7302250) (hS : va_S A s.heap H locs) (ls : Array Slot) : W p l e room_1 s m #[Value.ref b] below meth c H locs cells slots (lw_Z below #[Value.ref b] s) (F0 m 1745 ls []) := by
  obtain ⟨hx, hb, hr, hml, hown, hts, hX, hbl, hlocks, hgv⟩ := id C0
  have hbA : ¬ A b := by rw [hAe]; exact Nat.not_le.mpr hbl
  have hA0 : ∀ q : Nat, s.heap.size ≤ q → A q := fun q h => by rw [hAe]; exact h
  subst hAe
  refine lv_iconst (v := 1) hx hb dL_law_1745 (by decide) ?_
  refine va_forget (fun q hq => hS.2.2 q hq) ?_
  refine W.widen (k := 600000) (n := 7302250) hcs hss ?_
  exact lw_ret hx hb hr hlocks dL_law_1746
theorem l1_over {L : Nat} (hL : L ≤ 7) {i : Int32} (ei : i = 0 + 7) : Int32.ofNat L - 7 < i := by
  subst ei
  rw [Int32.lt_iff_toInt_lt]
  have h1 : L = 0 ∨ L = 1 ∨ L = 2 ∨ L = 3 ∨ L = 4 ∨ L = 5 ∨ L = 6 ∨ L = 7 := by omega
  rcases h1 with rfl | rfl | rfl | rfl | rfl | rfl | rfl | rfl <;> decide
theorem l1_seven {L : Nat} (hL : L ≤ 7) (h : ¬ Int32.ofNat L - 7 < 0) : L = 7 := by
  have h1 : L = 0 ∨ L = 1 ∨ L = 2 ∨ L = 3 ∨ L = 4 ∨ L = 5 ∨ L = 6 ∨ L = 7 := by omega
  rcases h1 with rfl | rfl | rfl | rfl | rfl | rfl | rfl | rfl <;> first | rfl | exact absurd (by decide) h
set_option maxHeartbeats 4000000 in
set_option maxRecDepth 100000 in
theorem law1_end {p : Program} {l : Launch} {e : Env} {s : State} {m : MethodId} {below : List Frame} {meth : Method} {c : Code} {b L : Nat} {xs : Nat → Int32} (hL : L ≤ 7) (C0 : lw_At p s m meth c b L xs) {A : Nat → Prop} (hAe : A = fun q => s.heap.size ≤ q) {H : Heap} {locs : List Loc} {cells slots : Nat} (hcs : cells ≤ 600000) (hss : slots ≤ 7302250) (hS : va_S A s.heap H locs) (ls : Array Slot) (hl : lv_has ls 4 [(0, .ref b), (3, .int 0)]) : W p l e room_1 s m #[Value.ref b] below meth c H locs cells slots (lw_Z below #[Value.ref b] s) (F0 m 1739 ls []) := by
  obtain ⟨hx, hb, hr, hml, hown, hts, hX, hbl, hlocks, hgv⟩ := id C0
  have hbA : ¬ A b := by rw [hAe]; exact Nat.not_le.mpr hbl
  have hA0 : ∀ q : Nat, s.heap.size ≤ q → A q := fun q h => by rw [hAe]; exact h
  obtain ⟨i7, ei7⟩ : ∃ z : Int32, z = 0 + 7 := ⟨_, rfl⟩
  refine lv_iinc (v := i7) (lv' := [(3, .int i7), (0, .ref b)]) hx hb dL_law_1739 hl (k := 1) rfl (by rw [ei7]; rfl) (by decide) rfl (fun ls hl => ?_)
  refine lv_goto (tgt := 18) hx hb dL_law_1742 (by decide) ?_
  refine lv_iload_n hx hb dL_law_18 rfl (lv_at hl 0 rfl) ?_
  refine lv_aload_n hx hb dL_law_19 rfl (lv_at hl 1 rfl) ?_
  refine va_slen hx hb hX hbl hbA hS dL_law_20 ?_
  refine lv_bipush (v := 7) hx hb dL_law_21 (by decide) ?_
  refine lv_isub hx hb dL_law_23 ?_
  refine lv_icmp_gt (tgt := 1745) hx hb dL_law_24 (by decide) (fun c1 => ?_) (fun c1 => ?_)
  · exact law1_out C0 hAe hcs hss hS ls
  · exact absurd (l1_over hL ei7) c1
set_option maxHeartbeats 4000000 in
set_option maxRecDepth 100000 in
theorem law1_c0 {p : Program} {l : Launch} {e : Env} {s : State} {m : MethodId} {below : List Frame} {meth : Method} {c : Code} {b L : Nat} {xs : Nat → Int32} (hL : L ≤ 7) (hL7 : L = 7) (C0 : lw_At p s m meth c b L xs) (N : Nat) (hN1 : 20000 ≤ N) (dC : Nat → ClassId) (dI : Nat → Nat → Nat) (q0 x_q7 x_q19 x_q8_23 x_q30 x_q10_38 x_q8_14_38 x_q17_14_38 x_q22_38 q8 y_q8 y_q17 y_q26 y_q35 y_q43 y_q51 y_q59 y_q67 y_q75 y_q83 y_q92 y_q100 : Nat) (x_k7 x_k8_23 x_k8_14_38 x_k17_14_38 x_k22_38 y_k8 y_k17 y_k26 y_k35 y_k43 y_k51 y_k59 y_k67 y_k75 y_k83 y_k92 y_k100 : ClassId) {A : Nat → Prop} (hAe : A = fun q => s.heap.size ≤ q) (H : Heap) (locs : List Loc) (ls : Array Slot) (hN : nw_all s) (hK : va_K (dC, dI) vwCl [(x_k7, .object "PointRings$Curve"), (x_k8_23, .int), (x_k8_14_38, .int), (x_k17_14_38, .int), (x_k22_38, .int), (y_k8, .int), (y_k17, .int), (y_k26, .int), (y_k35, .int), (y_k43, .int), (y_k51, .int), (y_k59, .int), (y_k67, .int), (y_k75, .int), (y_k83, .int), (y_k92, .boolean), (y_k100, .boolean)] s) (hP : va_P (dC, dI) vwCl [(q0, .inr (4, [.ref x_q7, .int 0, .ref x_q19, .ref x_q30])), (x_q7, .inl (x_k7, 24, .inr (.inr (.inr (.inr (fun _ => none)))))), (x_q19, .inr (1, [.ref x_q8_23, .int 0])), (x_q8_23, .inl (x_k8_23, 10007, .inl (fun _ => 0))), (x_q30, .inr (3, [.ref x_q19, .ref x_q10_38, .ref x_q22_38])), (x_q10_38, .inr (2, [.ref x_q8_14_38, .ref x_q17_14_38, .null, .int 1, .int 0, .int (-1)])), (x_q8_14_38, .inl (x_k8_14_38, 10007, .inl (fun _ => 0))), (x_q17_14_38, .inl (x_k17_14_38, 128, .inl (fun _ => 0))), (x_q22_38, .inl (x_k22_38, 4, .inl (fun _ => 0))), (q8, .inr (5, [.int 0, .int 0, .int 0, .ref y_q8, .ref y_q17, .int 0, .ref y_q26, .int 0, .ref y_q35, .int 0, .ref y_q43, .ref y_q51, .ref y_q59, .ref y_q67, .ref y_q75, .ref y_q83, .ref y_q92, .ref y_q100])), (y_q8, .inl (y_k8, 10008, .inl (fun _ => 0))), (y_q17, .inl (y_k17, 10008, .inl (fun _ => 0))), (y_q26, .inl (y_k26, 10300, .inl (fun _ => 0))), (y_q35, .inl (y_k35, 10008, .inl (fun _ => 0))), (y_q43, .inl (y_k43, 24, .inl (fun _ => 0))), (y_q51, .inl (y_k51, 24, .inl (fun _ => 0))), (y_q59, .inl (y_k59, 24, .inl (fun _ => 0))), (y_q67, .inl (y_k67, 24, .inl (fun _ => 0))), (y_q75, .inl (y_k75, 24, .inl (fun _ => 0))), (y_q83, .inl (y_k83, 24, .inl (fun _ => 0))), (y_q92, .inl (y_k92, 10300, .inl (fun _ => 0))), (y_q100, .inl (y_k100, 64, .inl (fun _ => 0)))] H) (hD : va_D A [(q0, .inr (4, [.ref x_q7, .int 0, .ref x_q19, .ref x_q30])), (x_q7, .inl (x_k7, 24, .inr (.inr (.inr (.inr (fun _ => none)))))), (x_q19, .inr (1, [.ref x_q8_23, .int 0])), (x_q8_23, .inl (x_k8_23, 10007, .inl (fun _ => 0))), (x_q30, .inr (3, [.ref x_q19, .ref x_q10_38, .ref x_q22_38])), (x_q10_38, .inr (2, [.ref x_q8_14_38, .ref x_q17_14_38, .null, .int 1, .int 0, .int (-1)])), (x_q8_14_38, .inl (x_k8_14_38, 10007, .inl (fun _ => 0))), (x_q17_14_38, .inl (x_k17_14_38, 128, .inl (fun _ => 0))), (x_q22_38, .inl (x_k22_38, 4, .inl (fun _ => 0))), (q8, .inr (5, [.int 0, .int 0, .int 0, .ref y_q8, .ref y_q17, .int 0, .ref y_q26, .int 0, .ref y_q35, .int 0, .ref y_q43, .ref y_q51, .ref y_q59, .ref y_q67, .ref y_q75, .ref y_q83, .ref y_q92, .ref y_q100])), (y_q8, .inl (y_k8, 10008, .inl (fun _ => 0))), (y_q17, .inl (y_k17, 10008, .inl (fun _ => 0))), (y_q26, .inl (y_k26, 10300, .inl (fun _ => 0))), (y_q35, .inl (y_k35, 10008, .inl (fun _ => 0))), (y_q43, .inl (y_k43, 24, .inl (fun _ => 0))), (y_q51, .inl (y_k51, 24, .inl (fun _ => 0))), (y_q59, .inl (y_k59, 24, .inl (fun _ => 0))), (y_q67, .inl (y_k67, 24, .inl (fun _ => 0))), (y_q75, .inl (y_k75, 24, .inl (fun _ => 0))), (y_q83, .inl (y_k83, 24, .inl (fun _ => 0))), (y_q92, .inl (y_k92, 10300, .inl (fun _ => 0))), (y_q100, .inl (y_k100, 64, .inl (fun _ => 0)))]) (hS : va_S A s.heap H locs) (hl : lv_has ls 4 [(0, .ref b), (1, .ref q0), (2, .ref q8), (3, .int 0)]) : W p l e room_1 s m #[Value.ref b] below meth c H locs 22 71035 (lw_Z below #[Value.ref b] s) (F0 m 208 ls []) := by
  obtain ⟨hx, hb, hr, hml, hown, hts, hX, hbl, hlocks, hgv⟩ := id C0
  have hbA : ¬ A b := by rw [hAe]; exact Nat.not_le.mpr hbl
  have hA0 : ∀ q : Nat, s.heap.size ≤ q → A q := fun q h => by rw [hAe]; exact h
  refine lv_aload_n hx hb dL_law_208 rfl (lv_at hl 1 rfl) ?_
  refine lv_aload_n hx hb dL_law_209 rfl (lv_at hl 0 rfl) ?_
  refine lv_iload_n hx hb dL_law_210 rfl (lv_at hl 3 rfl) ?_
  refine lv_iconst (v := 1) hx hb dL_law_211 (by decide) ?_
  refine lv_iadd hx hb dL_law_212 ?_
  refine va_sld hx hb hX hbl hbA hS (l1_vin hL7 (vp_in_iff.mpr (by decide +kernel))) dL_law_213 ?_
  refine lv_topi (fun s1 es1 => ?_)
  refine lv_aload_n hx hb dL_law_214 rfl (lv_at hl 0 rfl) ?_
  refine lv_iload_n hx hb dL_law_215 rfl (lv_at hl 3 rfl) ?_
  refine lv_iconst (v := 2) hx hb dL_law_216 (by decide) ?_
  refine lv_iadd hx hb dL_law_217 ?_
  refine va_sld hx hb hX hbl hbA hS (l1_vin hL7 (vp_in_iff.mpr (by decide +kernel))) dL_law_218 ?_
  refine lv_topi (fun s2 es2 => ?_)
  refine lv_aload_n hx hb dL_law_219 rfl (lv_at hl 0 rfl) ?_
  refine lv_iload_n hx hb dL_law_220 rfl (lv_at hl 3 rfl) ?_
  refine lv_iconst (v := 3) hx hb dL_law_221 (by decide) ?_
  refine lv_iadd hx hb dL_law_222 ?_
  refine va_sld hx hb hX hbl hbA hS (l1_vin hL7 (vp_in_iff.mpr (by decide +kernel))) dL_law_223 ?_
  refine lv_topi (fun s3 es3 => ?_)
  obtain ⟨r1, hr1⟩ : ∃ z, mX5_curve N 0 s1 s2 s3 = some z := l1_t_X5_curve N hN1 s1 s2 s3
  rcases r1 with r1 | r1
  · have hPc := hP.sub (ws' := [(q0, .inr (4, [.ref x_q7, .int 0, .ref x_q19, .ref x_q30])), (x_q7, .inl (x_k7, 24, .inr (.inr (.inr (.inr (fun _ => none))))))]) [0, 1] rfl
    have hDc := hD.sub (ws' := [(q0, .inr (4, [.ref x_q7, .int 0, .ref x_q19, .ref x_q30])), (x_q7, .inl (x_k7, 24, .inr (.inr (.inr (.inr (fun _ => none))))))]) [0, 1] (by decide) rfl
    have hKc := hK.sub (tys' := [(x_k7, .object "PointRings$Curve")]) [0] rfl
    have hFc := va_free (wc := [(q0, .inr (4, [.ref x_q7, .int 0, .ref x_q19, .ref x_q30])), (x_q7, .inl (x_k7, 24, .inr (.inr (.inr (.inr (fun _ => none))))))]) hD hS hA0 [0, 1] rfl
    refine va_calli (va_runV (As := [.int s1, .int s2, .int s3]) (rest := []) ⟨hx, hb, hml, hown, hts⟩ (ctX5_curve_l l N dC dI _ q0 x_q7 x_q19 x_q30 x_k7 0 (fun _ => none) s1 s2 s3 r1 hr1) (cwV 3 hts gL1_X5_curve rfl rfl rfl (by decide +kernel) ⟨Nat.le_of_ble_eq_true rfl, Nat.le_of_ble_eq_true rfl⟩) ⟨fun a U g mk q => by obtain ⟨q0, q1, qP, qK, qN, qD⟩ := q; exact ⟨q0, q1, qP, va_K.moved (u := U) (U := U.calling g mk a) (Vm.Alike.refl U.vm) qK, nw_same (u := U) (U := U.calling g mk a) rfl qN, qD⟩, va_recv hKc hPc (ci := 4) (q0 := 0) rfl rfl, fun U hU hW => ⟨rfl, by rw [hU], by rw [hU]; exact hPc, va_K.moved hW.alike hKc, nw_warm hW hN, hDc.weaken (fun _ _ _ _ => trivial)⟩⟩ rfl rfl hl.1 rfl (lv_room (Nat.le_of_ble_eq_true rfl)) dL_law_224 ⟨by decide +kernel, by decide +kernel⟩) hS (fun q _ h => hFc q h) hFc (fun rz u t H1 locs ht hvm hw hB1 hz1 hk1 hS => ?_)
    obtain ⟨u3, rfl⟩ : ∃ z, z = u := ⟨_, rfl⟩
    obtain ⟨hP1, hK1, hD1⟩ := hB1
    rw [ht] at hP1
    have hK1 := va_K.moved hvm.symm hK1
    obtain ⟨r4, rfl⟩ : ∃ z, z = rz := ⟨_, rfl⟩
    subst hw
    obtain ⟨hP, hD⟩ := va_join (wr := [(x_q19, .inr (1, [.ref x_q8_23, .int 0])), (x_q8_23, .inl (x_k8_23, 10007, .inl (fun _ => 0))), (x_q30, .inr (3, [.ref x_q19, .ref x_q10_38, .ref x_q22_38])), (x_q10_38, .inr (2, [.ref x_q8_14_38, .ref x_q17_14_38, .null, .int 1, .int 0, .int (-1)])), (x_q8_14_38, .inl (x_k8_14_38, 10007, .inl (fun _ => 0))), (x_q17_14_38, .inl (x_k17_14_38, 128, .inl (fun _ => 0))), (x_q22_38, .inl (x_k22_38, 4, .inl (fun _ => 0))), (q8, .inr (5, [.int 0, .int 0, .int 0, .ref y_q8, .ref y_q17, .int 0, .ref y_q26, .int 0, .ref y_q35, .int 0, .ref y_q43, .ref y_q51, .ref y_q59, .ref y_q67, .ref y_q75, .ref y_q83, .ref y_q92, .ref y_q100])), (y_q8, .inl (y_k8, 10008, .inl (fun _ => 0))), (y_q17, .inl (y_k17, 10008, .inl (fun _ => 0))), (y_q26, .inl (y_k26, 10300, .inl (fun _ => 0))), (y_q35, .inl (y_k35, 10008, .inl (fun _ => 0))), (y_q43, .inl (y_k43, 24, .inl (fun _ => 0))), (y_q51, .inl (y_k51, 24, .inl (fun _ => 0))), (y_q59, .inl (y_k59, 24, .inl (fun _ => 0))), (y_q67, .inl (y_k67, 24, .inl (fun _ => 0))), (y_q75, .inl (y_k75, 24, .inl (fun _ => 0))), (y_q83, .inl (y_k83, 24, .inl (fun _ => 0))), (y_q92, .inl (y_k92, 10300, .inl (fun _ => 0))), (y_q100, .inl (y_k100, 64, .inl (fun _ => 0)))]) (w1 := [(q0, .inr (4, [.ref x_q7, .int u3, .ref x_q19, .ref x_q30])), (x_q7, .inl (x_k7, 24, .inr (.inr (.inr (.inr (fun _ => none))))))]) hP hD [0, 1] [2, 3, 4, 5, 6, 7, 8, 9, 10, 11, 12, 13, 14, 15, 16, 17, 18, 19, 20, 21] rfl rfl (by decide) (by decide) hk1 hFc hP1 hD1
    generalize H1 = H at hP hS ⊢
    have hP := hP.sub (ws' := [(q0, .inr (4, [.ref x_q7, .int u3, .ref x_q19, .ref x_q30])), (x_q7, .inl (x_k7, 24, .inr (.inr (.inr (.inr (fun _ => none)))))), (x_q19, .inr (1, [.ref x_q8_23, .int 0])), (x_q8_23, .inl (x_k8_23, 10007, .inl (fun _ => 0))), (x_q30, .inr (3, [.ref x_q19, .ref x_q10_38, .ref x_q22_38])), (x_q10_38, .inr (2, [.ref x_q8_14_38, .ref x_q17_14_38, .null, .int 1, .int 0, .int (-1)])), (x_q8_14_38, .inl (x_k8_14_38, 10007, .inl (fun _ => 0))), (x_q17_14_38, .inl (x_k17_14_38, 128, .inl (fun _ => 0))), (x_q22_38, .inl (x_k22_38, 4, .inl (fun _ => 0))), (q8, .inr (5, [.int 0, .int 0, .int 0, .ref y_q8, .ref y_q17, .int 0, .ref y_q26, .int 0, .ref y_q35, .int 0, .ref y_q43, .ref y_q51, .ref y_q59, .ref y_q67, .ref y_q75, .ref y_q83, .ref y_q92, .ref y_q100])), (y_q8, .inl (y_k8, 10008, .inl (fun _ => 0))), (y_q17, .inl (y_k17, 10008, .inl (fun _ => 0))), (y_q26, .inl (y_k26, 10300, .inl (fun _ => 0))), (y_q35, .inl (y_k35, 10008, .inl (fun _ => 0))), (y_q43, .inl (y_k43, 24, .inl (fun _ => 0))), (y_q51, .inl (y_k51, 24, .inl (fun _ => 0))), (y_q59, .inl (y_k59, 24, .inl (fun _ => 0))), (y_q67, .inl (y_k67, 24, .inl (fun _ => 0))), (y_q75, .inl (y_k75, 24, .inl (fun _ => 0))), (y_q83, .inl (y_k83, 24, .inl (fun _ => 0))), (y_q92, .inl (y_k92, 10300, .inl (fun _ => 0))), (y_q100, .inl (y_k100, 64, .inl (fun _ => 0)))]) [20, 21, 0, 1, 2, 3, 4, 5, 6, 7, 8, 9, 10, 11, 12, 13, 14, 15, 16, 17, 18, 19] rfl
    have hD := hD.sub (ws' := [(q0, .inr (4, [.ref x_q7, .int u3, .ref x_q19, .ref x_q30])), (x_q7, .inl (x_k7, 24, .inr (.inr (.inr (.inr (fun _ => none)))))), (x_q19, .inr (1, [.ref x_q8_23, .int 0])), (x_q8_23, .inl (x_k8_23, 10007, .inl (fun _ => 0))), (x_q30, .inr (3, [.ref x_q19, .ref x_q10_38, .ref x_q22_38])), (x_q10_38, .inr (2, [.ref x_q8_14_38, .ref x_q17_14_38, .null, .int 1, .int 0, .int (-1)])), (x_q8_14_38, .inl (x_k8_14_38, 10007, .inl (fun _ => 0))), (x_q17_14_38, .inl (x_k17_14_38, 128, .inl (fun _ => 0))), (x_q22_38, .inl (x_k22_38, 4, .inl (fun _ => 0))), (q8, .inr (5, [.int 0, .int 0, .int 0, .ref y_q8, .ref y_q17, .int 0, .ref y_q26, .int 0, .ref y_q35, .int 0, .ref y_q43, .ref y_q51, .ref y_q59, .ref y_q67, .ref y_q75, .ref y_q83, .ref y_q92, .ref y_q100])), (y_q8, .inl (y_k8, 10008, .inl (fun _ => 0))), (y_q17, .inl (y_k17, 10008, .inl (fun _ => 0))), (y_q26, .inl (y_k26, 10300, .inl (fun _ => 0))), (y_q35, .inl (y_k35, 10008, .inl (fun _ => 0))), (y_q43, .inl (y_k43, 24, .inl (fun _ => 0))), (y_q51, .inl (y_k51, 24, .inl (fun _ => 0))), (y_q59, .inl (y_k59, 24, .inl (fun _ => 0))), (y_q67, .inl (y_k67, 24, .inl (fun _ => 0))), (y_q75, .inl (y_k75, 24, .inl (fun _ => 0))), (y_q83, .inl (y_k83, 24, .inl (fun _ => 0))), (y_q92, .inl (y_k92, 10300, .inl (fun _ => 0))), (y_q100, .inl (y_k100, 64, .inl (fun _ => 0)))]) [20, 21, 0, 1, 2, 3, 4, 5, 6, 7, 8, 9, 10, 11, 12, 13, 14, 15, 16, 17, 18, 19] (by decide) rfl
    refine lv_aload_n hx hb dL_law_227 rfl (lv_at hl 2 rfl) ?_
    refine lv_aload_n hx hb dL_law_228 rfl (lv_at hl 0 rfl) ?_
    refine lv_iload_n hx hb dL_law_229 rfl (lv_at hl 3 rfl) ?_
    refine lv_iconst (v := 1) hx hb dL_law_230 (by decide) ?_
    refine lv_iadd hx hb dL_law_231 ?_
    refine va_sld hx hb hX hbl hbA hS (l1_vin hL7 (vp_in_iff.mpr (by decide +kernel))) dL_law_232 ?_
    rw [← es1]
    refine lv_aload_n hx hb dL_law_233 rfl (lv_at hl 0 rfl) ?_
    refine lv_iload_n hx hb dL_law_234 rfl (lv_at hl 3 rfl) ?_
    refine lv_iconst (v := 2) hx hb dL_law_235 (by decide) ?_
    refine lv_iadd hx hb dL_law_236 ?_
    refine va_sld hx hb hX hbl hbA hS (l1_vin hL7 (vp_in_iff.mpr (by decide +kernel))) dL_law_237 ?_
    rw [← es2]
    refine lv_aload_n hx hb dL_law_238 rfl (lv_at hl 0 rfl) ?_
    refine lv_iload_n hx hb dL_law_239 rfl (lv_at hl 3 rfl) ?_
    refine lv_iconst (v := 3) hx hb dL_law_240 (by decide) ?_
    refine lv_iadd hx hb dL_law_241 ?_
    refine va_sld hx hb hX hbl hbA hS (l1_vin hL7 (vp_in_iff.mpr (by decide +kernel))) dL_law_242 ?_
    rw [← es3]
    obtain ⟨r5, hr5⟩ : ∃ z, mX6_curve N 0 0 0 0 0 0 (fun _ => 0) (fun _ => 0) (fun _ => 0) (fun _ => 0) (fun _ => 0) (fun _ => 0) s1 s2 s3 = some z := l1_t_X6_curve N hN1 s1 s2 s3
    have hPc := hP.sub (ws' := [(q8, .inr (5, [.int 0, .int 0, .int 0, .ref y_q8, .ref y_q17, .int 0, .ref y_q26, .int 0, .ref y_q35, .int 0, .ref y_q43, .ref y_q51, .ref y_q59, .ref y_q67, .ref y_q75, .ref y_q83, .ref y_q92, .ref y_q100])), (y_q8, .inl (y_k8, 10008, .inl (fun _ => 0))), (y_q17, .inl (y_k17, 10008, .inl (fun _ => 0))), (y_q43, .inl (y_k43, 24, .inl (fun _ => 0))), (y_q51, .inl (y_k51, 24, .inl (fun _ => 0))), (y_q59, .inl (y_k59, 24, .inl (fun _ => 0))), (y_q67, .inl (y_k67, 24, .inl (fun _ => 0)))]) [9, 10, 11, 14, 15, 16, 17] rfl
    have hDc := hD.sub (ws' := [(q8, .inr (5, [.int 0, .int 0, .int 0, .ref y_q8, .ref y_q17, .int 0, .ref y_q26, .int 0, .ref y_q35, .int 0, .ref y_q43, .ref y_q51, .ref y_q59, .ref y_q67, .ref y_q75, .ref y_q83, .ref y_q92, .ref y_q100])), (y_q8, .inl (y_k8, 10008, .inl (fun _ => 0))), (y_q17, .inl (y_k17, 10008, .inl (fun _ => 0))), (y_q43, .inl (y_k43, 24, .inl (fun _ => 0))), (y_q51, .inl (y_k51, 24, .inl (fun _ => 0))), (y_q59, .inl (y_k59, 24, .inl (fun _ => 0))), (y_q67, .inl (y_k67, 24, .inl (fun _ => 0)))]) [9, 10, 11, 14, 15, 16, 17] (by decide) rfl
    have hKc := hK.sub (tys' := [(y_k8, .int), (y_k17, .int), (y_k43, .int), (y_k51, .int), (y_k59, .int), (y_k67, .int)]) [5, 6, 9, 10, 11, 12] rfl
    have hFc := va_free (wc := [(q8, .inr (5, [.int 0, .int 0, .int 0, .ref y_q8, .ref y_q17, .int 0, .ref y_q26, .int 0, .ref y_q35, .int 0, .ref y_q43, .ref y_q51, .ref y_q59, .ref y_q67, .ref y_q75, .ref y_q83, .ref y_q92, .ref y_q100])), (y_q8, .inl (y_k8, 10008, .inl (fun _ => 0))), (y_q17, .inl (y_k17, 10008, .inl (fun _ => 0))), (y_q43, .inl (y_k43, 24, .inl (fun _ => 0))), (y_q51, .inl (y_k51, 24, .inl (fun _ => 0))), (y_q59, .inl (y_k59, 24, .inl (fun _ => 0))), (y_q67, .inl (y_k67, 24, .inl (fun _ => 0)))]) hD hS hA0 [9, 10, 11, 14, 15, 16, 17] rfl
    refine va_calli (va_runV (As := [.int s1, .int s2, .int s3]) (rest := [.int r4]) ⟨hx, hb, hml, hown, hts⟩ (ctX6_curve l N dC dI _ q8 y_q8 y_q17 y_q43 y_q51 y_q59 y_q67 y_q26 y_q35 y_q75 y_q83 y_q92 y_q100 y_k8 y_k17 y_k43 y_k51 y_k59 y_k67 0 0 0 0 0 0 (fun _ => 0) (fun _ => 0) (fun _ => 0) (fun _ => 0) (fun _ => 0) (fun _ => 0) s1 s2 s3 r5 hr5) (cwV 3 hts gL1_X6_curve rfl rfl rfl (by decide +kernel) ⟨Nat.le_of_ble_eq_true rfl, Nat.le_of_ble_eq_true rfl⟩) ⟨fun a U g mk q => by obtain ⟨q0, q1, qP, qK, qN, qD⟩ := q; exact ⟨q0, q1, qP, va_K.moved (u := U) (U := U.calling g mk a) (Vm.Alike.refl U.vm) qK, nw_same (u := U) (U := U.calling g mk a) rfl qN, qD⟩, va_recv hKc hPc (ci := 5) (q0 := 0) rfl rfl, fun U hU hW => ⟨rfl, by rw [hU], by rw [hU]; exact hPc, va_K.moved hW.alike hKc, nw_warm hW hN, hDc.weaken (fun _ _ _ _ => trivial)⟩⟩ rfl rfl hl.1 rfl (lv_room (Nat.le_of_ble_eq_true rfl)) dL_law_243 ⟨by decide +kernel, by decide +kernel⟩) hS (fun q _ h => hFc q h) hFc (fun rz u t H1 locs ht hvm hw hB1 hz1 hk1 hS => ?_)
    obtain ⟨u6, u7, u8, u9, u10, u11, f12, f13, f14, f15, f16, f17⟩ := u
    obtain ⟨hP1, hK1, hD1⟩ := hB1
    rw [ht] at hP1
    have hK1 := va_K.moved hvm.symm hK1
    obtain ⟨r18, rfl⟩ : ∃ z, z = rz := ⟨_, rfl⟩
    subst hw
    obtain ⟨hP, hD⟩ := va_join (wr := [(q0, .inr (4, [.ref x_q7, .int u3, .ref x_q19, .ref x_q30])), (x_q7, .inl (x_k7, 24, .inr (.inr (.inr (.inr (fun _ => none)))))), (x_q19, .inr (1, [.ref x_q8_23, .int 0])), (x_q8_23, .inl (x_k8_23, 10007, .inl (fun _ => 0))), (x_q30, .inr (3, [.ref x_q19, .ref x_q10_38, .ref x_q22_38])), (x_q10_38, .inr (2, [.ref x_q8_14_38, .ref x_q17_14_38, .null, .int 1, .int 0, .int (-1)])), (x_q8_14_38, .inl (x_k8_14_38, 10007, .inl (fun _ => 0))), (x_q17_14_38, .inl (x_k17_14_38, 128, .inl (fun _ => 0))), (x_q22_38, .inl (x_k22_38, 4, .inl (fun _ => 0))), (y_q26, .inl (y_k26, 10300, .inl (fun _ => 0))), (y_q35, .inl (y_k35, 10008, .inl (fun _ => 0))), (y_q75, .inl (y_k75, 24, .inl (fun _ => 0))), (y_q83, .inl (y_k83, 24, .inl (fun _ => 0))), (y_q92, .inl (y_k92, 10300, .inl (fun _ => 0))), (y_q100, .inl (y_k100, 64, .inl (fun _ => 0)))]) (w1 := [(q8, .inr (5, [.int u6, .int u7, .int u8, .ref y_q8, .ref y_q17, .int u9, .ref y_q26, .int u10, .ref y_q35, .int u11, .ref y_q43, .ref y_q51, .ref y_q59, .ref y_q67, .ref y_q75, .ref y_q83, .ref y_q92, .ref y_q100])), (y_q8, .inl (y_k8, 10008, .inl f12)), (y_q17, .inl (y_k17, 10008, .inl f13)), (y_q43, .inl (y_k43, 24, .inl f14)), (y_q51, .inl (y_k51, 24, .inl f15)), (y_q59, .inl (y_k59, 24, .inl f16)), (y_q67, .inl (y_k67, 24, .inl f17))]) hP hD [9, 10, 11, 14, 15, 16, 17] [0, 1, 2, 3, 4, 5, 6, 7, 8, 12, 13, 18, 19, 20, 21] rfl rfl (by decide) (by decide) hk1 hFc hP1 hD1
    generalize H1 = H at hP hS ⊢
    have hP := hP.sub (ws' := [(q0, .inr (4, [.ref x_q7, .int u3, .ref x_q19, .ref x_q30])), (x_q7, .inl (x_k7, 24, .inr (.inr (.inr (.inr (fun _ => none)))))), (x_q19, .inr (1, [.ref x_q8_23, .int 0])), (x_q8_23, .inl (x_k8_23, 10007, .inl (fun _ => 0))), (x_q30, .inr (3, [.ref x_q19, .ref x_q10_38, .ref x_q22_38])), (x_q10_38, .inr (2, [.ref x_q8_14_38, .ref x_q17_14_38, .null, .int 1, .int 0, .int (-1)])), (x_q8_14_38, .inl (x_k8_14_38, 10007, .inl (fun _ => 0))), (x_q17_14_38, .inl (x_k17_14_38, 128, .inl (fun _ => 0))), (x_q22_38, .inl (x_k22_38, 4, .inl (fun _ => 0))), (q8, .inr (5, [.int u6, .int u7, .int u8, .ref y_q8, .ref y_q17, .int u9, .ref y_q26, .int u10, .ref y_q35, .int u11, .ref y_q43, .ref y_q51, .ref y_q59, .ref y_q67, .ref y_q75, .ref y_q83, .ref y_q92, .ref y_q100])), (y_q8, .inl (y_k8, 10008, .inl f12)), (y_q17, .inl (y_k17, 10008, .inl f13)), (y_q26, .inl (y_k26, 10300, .inl (fun _ => 0))), (y_q35, .inl (y_k35, 10008, .inl (fun _ => 0))), (y_q43, .inl (y_k43, 24, .inl f14)), (y_q51, .inl (y_k51, 24, .inl f15)), (y_q59, .inl (y_k59, 24, .inl f16)), (y_q67, .inl (y_k67, 24, .inl f17)), (y_q75, .inl (y_k75, 24, .inl (fun _ => 0))), (y_q83, .inl (y_k83, 24, .inl (fun _ => 0))), (y_q92, .inl (y_k92, 10300, .inl (fun _ => 0))), (y_q100, .inl (y_k100, 64, .inl (fun _ => 0)))]) [0, 1, 2, 3, 4, 5, 6, 7, 8, 15, 16, 17, 9, 10, 18, 19, 20, 21, 11, 12, 13, 14] rfl
    have hD := hD.sub (ws' := [(q0, .inr (4, [.ref x_q7, .int u3, .ref x_q19, .ref x_q30])), (x_q7, .inl (x_k7, 24, .inr (.inr (.inr (.inr (fun _ => none)))))), (x_q19, .inr (1, [.ref x_q8_23, .int 0])), (x_q8_23, .inl (x_k8_23, 10007, .inl (fun _ => 0))), (x_q30, .inr (3, [.ref x_q19, .ref x_q10_38, .ref x_q22_38])), (x_q10_38, .inr (2, [.ref x_q8_14_38, .ref x_q17_14_38, .null, .int 1, .int 0, .int (-1)])), (x_q8_14_38, .inl (x_k8_14_38, 10007, .inl (fun _ => 0))), (x_q17_14_38, .inl (x_k17_14_38, 128, .inl (fun _ => 0))), (x_q22_38, .inl (x_k22_38, 4, .inl (fun _ => 0))), (q8, .inr (5, [.int u6, .int u7, .int u8, .ref y_q8, .ref y_q17, .int u9, .ref y_q26, .int u10, .ref y_q35, .int u11, .ref y_q43, .ref y_q51, .ref y_q59, .ref y_q67, .ref y_q75, .ref y_q83, .ref y_q92, .ref y_q100])), (y_q8, .inl (y_k8, 10008, .inl f12)), (y_q17, .inl (y_k17, 10008, .inl f13)), (y_q26, .inl (y_k26, 10300, .inl (fun _ => 0))), (y_q35, .inl (y_k35, 10008, .inl (fun _ => 0))), (y_q43, .inl (y_k43, 24, .inl f14)), (y_q51, .inl (y_k51, 24, .inl f15)), (y_q59, .inl (y_k59, 24, .inl f16)), (y_q67, .inl (y_k67, 24, .inl f17)), (y_q75, .inl (y_k75, 24, .inl (fun _ => 0))), (y_q83, .inl (y_k83, 24, .inl (fun _ => 0))), (y_q92, .inl (y_k92, 10300, .inl (fun _ => 0))), (y_q100, .inl (y_k100, 64, .inl (fun _ => 0)))]) [0, 1, 2, 3, 4, 5, 6, 7, 8, 15, 16, 17, 9, 10, 18, 19, 20, 21, 11, 12, 13, 14] (by decide) rfl
    refine lv_icmp_eq (tgt := 1739) hx hb dL_law_246 (by decide) (fun c19 => ?_) (fun c19 => ?_)
    · exact law1_end hL C0 hAe (by decide +kernel) (by decide +kernel) hS ls (lv_sub hl [0, 3] rfl)
    · exact absurd (l1_eq_curve_l N hN1 hr1 hr5) c19
  · have hPc := hP.sub (ws' := [(q0, .inr (4, [.ref x_q7, .int 0, .ref x_q19, .ref x_q30])), (x_q7, .inl (x_k7, 24, .inr (.inr (.inr (.inr (fun _ => none))))))]) [0, 1] rfl
    have hDc := hD.sub (ws' := [(q0, .inr (4, [.ref x_q7, .int 0, .ref x_q19, .ref x_q30])), (x_q7, .inl (x_k7, 24, .inr (.inr (.inr (.inr (fun _ => none))))))]) [0, 1] (by decide) rfl
    have hKc := hK.sub (tys' := [(x_k7, .object "PointRings$Curve")]) [0] rfl
    have hFc := va_free (wc := [(q0, .inr (4, [.ref x_q7, .int 0, .ref x_q19, .ref x_q30])), (x_q7, .inl (x_k7, 24, .inr (.inr (.inr (.inr (fun _ => none))))))]) hD hS hA0 [0, 1] rfl
    refine va_calli (va_runV (As := [.int s1, .int s2, .int s3]) (rest := []) ⟨hx, hb, hml, hown, hts⟩ (ctX5_curve_r l N dC dI _ q0 x_q7 x_q19 x_q30 x_k7 0 (fun _ => none) s1 s2 s3 r1 hr1) (cwV 3 hts gL1_X5_curve rfl rfl rfl (by decide +kernel) ⟨Nat.le_of_ble_eq_true rfl, Nat.le_of_ble_eq_true rfl⟩) ⟨fun a U g mk q => by obtain ⟨q0, q1, qP, qK, qN, qD⟩ := q; exact ⟨q0, q1, qP, va_K.moved (u := U) (U := U.calling g mk a) (Vm.Alike.refl U.vm) qK, nw_same (u := U) (U := U.calling g mk a) rfl qN, qD⟩, va_recv hKc hPc (ci := 4) (q0 := 0) rfl rfl, fun U hU hW => ⟨rfl, by rw [hU], by rw [hU]; exact hPc, va_K.moved hW.alike hKc, nw_warm hW hN, hDc.weaken (fun _ _ _ _ => trivial)⟩⟩ rfl rfl hl.1 rfl (lv_room (Nat.le_of_ble_eq_true rfl)) dL_law_224 ⟨by decide +kernel, by decide +kernel⟩) hS (fun q _ h => hFc q h) hFc (fun rz u t H1 locs ht hvm hw hB1 hz1 hk1 hS => ?_)
    obtain ⟨u21, u22, u23, u24, u25, u26, u27, u28, u29, u30, u31, u32, u33⟩ := u
    obtain ⟨q39_224, hP1, hK1, hD1⟩ := hB1
    rw [ht] at hP1
    have hK1 := va_K.moved hvm.symm hK1
    obtain ⟨r34, rfl⟩ : ∃ z, z = rz := ⟨_, rfl⟩
    subst hw
    obtain ⟨hP, hD⟩ := va_join (wr := [(x_q19, .inr (1, [.ref x_q8_23, .int 0])), (x_q8_23, .inl (x_k8_23, 10007, .inl (fun _ => 0))), (x_q30, .inr (3, [.ref x_q19, .ref x_q10_38, .ref x_q22_38])), (x_q10_38, .inr (2, [.ref x_q8_14_38, .ref x_q17_14_38, .null, .int 1, .int 0, .int (-1)])), (x_q8_14_38, .inl (x_k8_14_38, 10007, .inl (fun _ => 0))), (x_q17_14_38, .inl (x_k17_14_38, 128, .inl (fun _ => 0))), (x_q22_38, .inl (x_k22_38, 4, .inl (fun _ => 0))), (q8, .inr (5, [.int 0, .int 0, .int 0, .ref y_q8, .ref y_q17, .int 0, .ref y_q26, .int 0, .ref y_q35, .int 0, .ref y_q43, .ref y_q51, .ref y_q59, .ref y_q67, .ref y_q75, .ref y_q83, .ref y_q92, .ref y_q100])), (y_q8, .inl (y_k8, 10008, .inl (fun _ => 0))), (y_q17, .inl (y_k17, 10008, .inl (fun _ => 0))), (y_q26, .inl (y_k26, 10300, .inl (fun _ => 0))), (y_q35, .inl (y_k35, 10008, .inl (fun _ => 0))), (y_q43, .inl (y_k43, 24, .inl (fun _ => 0))), (y_q51, .inl (y_k51, 24, .inl (fun _ => 0))), (y_q59, .inl (y_k59, 24, .inl (fun _ => 0))), (y_q67, .inl (y_k67, 24, .inl (fun _ => 0))), (y_q75, .inl (y_k75, 24, .inl (fun _ => 0))), (y_q83, .inl (y_k83, 24, .inl (fun _ => 0))), (y_q92, .inl (y_k92, 10300, .inl (fun _ => 0))), (y_q100, .inl (y_k100, 64, .inl (fun _ => 0)))]) (w1 := [(q0, .inr (4, [.ref x_q7, .int u21, .ref x_q19, .ref x_q30])), (x_q7, .inl (x_k7, 24, .inr (.inr (.inr (.inr (va_up (fun _ => none) (0 : Int32).toNatClampNeg (some q39_224))))))), (q39_224, .inr (0, [.int u22, .int u23, .int u24, .int u25, .int u26, .int u27, .int u28, .int u29, .int u30, .int u31, .int u32, .int u33]))]) hP hD [0, 1] [2, 3, 4, 5, 6, 7, 8, 9, 10, 11, 12, 13, 14, 15, 16, 17, 18, 19, 20, 21] rfl rfl (by decide) (by decide) hk1 hFc hP1 hD1
    generalize H1 = H at hP hS ⊢
    have hP := hP.sub (ws' := [(q0, .inr (4, [.ref x_q7, .int u21, .ref x_q19, .ref x_q30])), (x_q7, .inl (x_k7, 24, .inr (.inr (.inr (.inr (va_up (fun _ => none) (0 : Int32).toNatClampNeg (some q39_224))))))), (x_q19, .inr (1, [.ref x_q8_23, .int 0])), (x_q8_23, .inl (x_k8_23, 10007, .inl (fun _ => 0))), (x_q30, .inr (3, [.ref x_q19, .ref x_q10_38, .ref x_q22_38])), (x_q10_38, .inr (2, [.ref x_q8_14_38, .ref x_q17_14_38, .null, .int 1, .int 0, .int (-1)])), (x_q8_14_38, .inl (x_k8_14_38, 10007, .inl (fun _ => 0))), (x_q17_14_38, .inl (x_k17_14_38, 128, .inl (fun _ => 0))), (x_q22_38, .inl (x_k22_38, 4, .inl (fun _ => 0))), (q8, .inr (5, [.int 0, .int 0, .int 0, .ref y_q8, .ref y_q17, .int 0, .ref y_q26, .int 0, .ref y_q35, .int 0, .ref y_q43, .ref y_q51, .ref y_q59, .ref y_q67, .ref y_q75, .ref y_q83, .ref y_q92, .ref y_q100])), (y_q8, .inl (y_k8, 10008, .inl (fun _ => 0))), (y_q17, .inl (y_k17, 10008, .inl (fun _ => 0))), (y_q26, .inl (y_k26, 10300, .inl (fun _ => 0))), (y_q35, .inl (y_k35, 10008, .inl (fun _ => 0))), (y_q43, .inl (y_k43, 24, .inl (fun _ => 0))), (y_q51, .inl (y_k51, 24, .inl (fun _ => 0))), (y_q59, .inl (y_k59, 24, .inl (fun _ => 0))), (y_q67, .inl (y_k67, 24, .inl (fun _ => 0))), (y_q75, .inl (y_k75, 24, .inl (fun _ => 0))), (y_q83, .inl (y_k83, 24, .inl (fun _ => 0))), (y_q92, .inl (y_k92, 10300, .inl (fun _ => 0))), (y_q100, .inl (y_k100, 64, .inl (fun _ => 0))), (q39_224, .inr (0, [.int u22, .int u23, .int u24, .int u25, .int u26, .int u27, .int u28, .int u29, .int u30, .int u31, .int u32, .int u33]))]) [20, 21, 0, 1, 2, 3, 4, 5, 6, 7, 8, 9, 10, 11, 12, 13, 14, 15, 16, 17, 18, 19, 22] rfl
    have hD := hD.sub (ws' := [(q0, .inr (4, [.ref x_q7, .int u21, .ref x_q19, .ref x_q30])), (x_q7, .inl (x_k7, 24, .inr (.inr (.inr (.inr (va_up (fun _ => none) (0 : Int32).toNatClampNeg (some q39_224))))))), (x_q19, .inr (1, [.ref x_q8_23, .int 0])), (x_q8_23, .inl (x_k8_23, 10007, .inl (fun _ => 0))), (x_q30, .inr (3, [.ref x_q19, .ref x_q10_38, .ref x_q22_38])), (x_q10_38, .inr (2, [.ref x_q8_14_38, .ref x_q17_14_38, .null, .int 1, .int 0, .int (-1)])), (x_q8_14_38, .inl (x_k8_14_38, 10007, .inl (fun _ => 0))), (x_q17_14_38, .inl (x_k17_14_38, 128, .inl (fun _ => 0))), (x_q22_38, .inl (x_k22_38, 4, .inl (fun _ => 0))), (q8, .inr (5, [.int 0, .int 0, .int 0, .ref y_q8, .ref y_q17, .int 0, .ref y_q26, .int 0, .ref y_q35, .int 0, .ref y_q43, .ref y_q51, .ref y_q59, .ref y_q67, .ref y_q75, .ref y_q83, .ref y_q92, .ref y_q100])), (y_q8, .inl (y_k8, 10008, .inl (fun _ => 0))), (y_q17, .inl (y_k17, 10008, .inl (fun _ => 0))), (y_q26, .inl (y_k26, 10300, .inl (fun _ => 0))), (y_q35, .inl (y_k35, 10008, .inl (fun _ => 0))), (y_q43, .inl (y_k43, 24, .inl (fun _ => 0))), (y_q51, .inl (y_k51, 24, .inl (fun _ => 0))), (y_q59, .inl (y_k59, 24, .inl (fun _ => 0))), (y_q67, .inl (y_k67, 24, .inl (fun _ => 0))), (y_q75, .inl (y_k75, 24, .inl (fun _ => 0))), (y_q83, .inl (y_k83, 24, .inl (fun _ => 0))), (y_q92, .inl (y_k92, 10300, .inl (fun _ => 0))), (y_q100, .inl (y_k100, 64, .inl (fun _ => 0))), (q39_224, .inr (0, [.int u22, .int u23, .int u24, .int u25, .int u26, .int u27, .int u28, .int u29, .int u30, .int u31, .int u32, .int u33]))]) [20, 21, 0, 1, 2, 3, 4, 5, 6, 7, 8, 9, 10, 11, 12, 13, 14, 15, 16, 17, 18, 19, 22] (by decide) rfl
    refine lv_aload_n hx hb dL_law_227 rfl (lv_at hl 2 rfl) ?_
    refine lv_aload_n hx hb dL_law_228 rfl (lv_at hl 0 rfl) ?_
    refine lv_iload_n hx hb dL_law_229 rfl (lv_at hl 3 rfl) ?_
    refine lv_iconst (v := 1) hx hb dL_law_230 (by decide) ?_
    refine lv_iadd hx hb dL_law_231 ?_
    refine va_sld hx hb hX hbl hbA hS (l1_vin hL7 (vp_in_iff.mpr (by decide +kernel))) dL_law_232 ?_
    rw [← es1]
    refine lv_aload_n hx hb dL_law_233 rfl (lv_at hl 0 rfl) ?_
    refine lv_iload_n hx hb dL_law_234 rfl (lv_at hl 3 rfl) ?_
    refine lv_iconst (v := 2) hx hb dL_law_235 (by decide) ?_
    refine lv_iadd hx hb dL_law_236 ?_
    refine va_sld hx hb hX hbl hbA hS (l1_vin hL7 (vp_in_iff.mpr (by decide +kernel))) dL_law_237 ?_
    rw [← es2]
    refine lv_aload_n hx hb dL_law_238 rfl (lv_at hl 0 rfl) ?_
    refine lv_iload_n hx hb dL_law_239 rfl (lv_at hl 3 rfl) ?_
    refine lv_iconst (v := 3) hx hb dL_law_240 (by decide) ?_
    refine lv_iadd hx hb dL_law_241 ?_
    refine va_sld hx hb hX hbl hbA hS (l1_vin hL7 (vp_in_iff.mpr (by decide +kernel))) dL_law_242 ?_
    rw [← es3]
    obtain ⟨r35, hr35⟩ : ∃ z, mX6_curve N 0 0 0 0 0 0 (fun _ => 0) (fun _ => 0) (fun _ => 0) (fun _ => 0) (fun _ => 0) (fun _ => 0) s1 s2 s3 = some z := l1_t_X6_curve N hN1 s1 s2 s3
    have hPc := hP.sub (ws' := [(q8, .inr (5, [.int 0, .int 0, .int 0, .ref y_q8, .ref y_q17, .int 0, .ref y_q26, .int 0, .ref y_q35, .int 0, .ref y_q43, .ref y_q51, .ref y_q59, .ref y_q67, .ref y_q75, .ref y_q83, .ref y_q92, .ref y_q100])), (y_q8, .inl (y_k8, 10008, .inl (fun _ => 0))), (y_q17, .inl (y_k17, 10008, .inl (fun _ => 0))), (y_q43, .inl (y_k43, 24, .inl (fun _ => 0))), (y_q51, .inl (y_k51, 24, .inl (fun _ => 0))), (y_q59, .inl (y_k59, 24, .inl (fun _ => 0))), (y_q67, .inl (y_k67, 24, .inl (fun _ => 0)))]) [9, 10, 11, 14, 15, 16, 17] rfl
    have hDc := hD.sub (ws' := [(q8, .inr (5, [.int 0, .int 0, .int 0, .ref y_q8, .ref y_q17, .int 0, .ref y_q26, .int 0, .ref y_q35, .int 0, .ref y_q43, .ref y_q51, .ref y_q59, .ref y_q67, .ref y_q75, .ref y_q83, .ref y_q92, .ref y_q100])), (y_q8, .inl (y_k8, 10008, .inl (fun _ => 0))), (y_q17, .inl (y_k17, 10008, .inl (fun _ => 0))), (y_q43, .inl (y_k43, 24, .inl (fun _ => 0))), (y_q51, .inl (y_k51, 24, .inl (fun _ => 0))), (y_q59, .inl (y_k59, 24, .inl (fun _ => 0))), (y_q67, .inl (y_k67, 24, .inl (fun _ => 0)))]) [9, 10, 11, 14, 15, 16, 17] (by decide) rfl
    have hKc := hK.sub (tys' := [(y_k8, .int), (y_k17, .int), (y_k43, .int), (y_k51, .int), (y_k59, .int), (y_k67, .int)]) [5, 6, 9, 10, 11, 12] rfl
    have hFc := va_free (wc := [(q8, .inr (5, [.int 0, .int 0, .int 0, .ref y_q8, .ref y_q17, .int 0, .ref y_q26, .int 0, .ref y_q35, .int 0, .ref y_q43, .ref y_q51, .ref y_q59, .ref y_q67, .ref y_q75, .ref y_q83, .ref y_q92, .ref y_q100])), (y_q8, .inl (y_k8, 10008, .inl (fun _ => 0))), (y_q17, .inl (y_k17, 10008, .inl (fun _ => 0))), (y_q43, .inl (y_k43, 24, .inl (fun _ => 0))), (y_q51, .inl (y_k51, 24, .inl (fun _ => 0))), (y_q59, .inl (y_k59, 24, .inl (fun _ => 0))), (y_q67, .inl (y_k67, 24, .inl (fun _ => 0)))]) hD hS hA0 [9, 10, 11, 14, 15, 16, 17] rfl
    refine va_calli (va_runV (As := [.int s1, .int s2, .int s3]) (rest := [.int r34]) ⟨hx, hb, hml, hown, hts⟩ (ctX6_curve l N dC dI _ q8 y_q8 y_q17 y_q43 y_q51 y_q59 y_q67 y_q26 y_q35 y_q75 y_q83 y_q92 y_q100 y_k8 y_k17 y_k43 y_k51 y_k59 y_k67 0 0 0 0 0 0 (fun _ => 0) (fun _ => 0) (fun _ => 0) (fun _ => 0) (fun _ => 0) (fun _ => 0) s1 s2 s3 r35 hr35) (cwV 3 hts gL1_X6_curve rfl rfl rfl (by decide +kernel) ⟨Nat.le_of_ble_eq_true rfl, Nat.le_of_ble_eq_true rfl⟩) ⟨fun a U g mk q => by obtain ⟨q0, q1, qP, qK, qN, qD⟩ := q; exact ⟨q0, q1, qP, va_K.moved (u := U) (U := U.calling g mk a) (Vm.Alike.refl U.vm) qK, nw_same (u := U) (U := U.calling g mk a) rfl qN, qD⟩, va_recv hKc hPc (ci := 5) (q0 := 0) rfl rfl, fun U hU hW => ⟨rfl, by rw [hU], by rw [hU]; exact hPc, va_K.moved hW.alike hKc, nw_warm hW hN, hDc.weaken (fun _ _ _ _ => trivial)⟩⟩ rfl rfl hl.1 rfl (lv_room (Nat.le_of_ble_eq_true rfl)) dL_law_243 ⟨by decide +kernel, by decide +kernel⟩) hS (fun q _ h => hFc q h) hFc (fun rz u t H1 locs ht hvm hw hB1 hz1 hk1 hS => ?_)
    obtain ⟨u36, u37, u38, u39, u40, u41, f42, f43, f44, f45, f46, f47⟩ := u
    obtain ⟨hP1, hK1, hD1⟩ := hB1
    rw [ht] at hP1
    have hK1 := va_K.moved hvm.symm hK1
    obtain ⟨r48, rfl⟩ : ∃ z, z = rz := ⟨_, rfl⟩
    subst hw
    obtain ⟨hP, hD⟩ := va_join (wr := [(q0, .inr (4, [.ref x_q7, .int u21, .ref x_q19, .ref x_q30])), (x_q7, .inl (x_k7, 24, .inr (.inr (.inr (.inr (va_up (fun _ => none) (0 : Int32).toNatClampNeg (some q39_224))))))), (x_q19, .inr (1, [.ref x_q8_23, .int 0])), (x_q8_23, .inl (x_k8_23, 10007, .inl (fun _ => 0))), (x_q30, .inr (3, [.ref x_q19, .ref x_q10_38, .ref x_q22_38])), (x_q10_38, .inr (2, [.ref x_q8_14_38, .ref x_q17_14_38, .null, .int 1, .int 0, .int (-1)])), (x_q8_14_38, .inl (x_k8_14_38, 10007, .inl (fun _ => 0))), (x_q17_14_38, .inl (x_k17_14_38, 128, .inl (fun _ => 0))), (x_q22_38, .inl (x_k22_38, 4, .inl (fun _ => 0))), (y_q26, .inl (y_k26, 10300, .inl (fun _ => 0))), (y_q35, .inl (y_k35, 10008, .inl (fun _ => 0))), (y_q75, .inl (y_k75, 24, .inl (fun _ => 0))), (y_q83, .inl (y_k83, 24, .inl (fun _ => 0))), (y_q92, .inl (y_k92, 10300, .inl (fun _ => 0))), (y_q100, .inl (y_k100, 64, .inl (fun _ => 0))), (q39_224, .inr (0, [.int u22, .int u23, .int u24, .int u25, .int u26, .int u27, .int u28, .int u29, .int u30, .int u31, .int u32, .int u33]))]) (w1 := [(q8, .inr (5, [.int u36, .int u37, .int u38, .ref y_q8, .ref y_q17, .int u39, .ref y_q26, .int u40, .ref y_q35, .int u41, .ref y_q43, .ref y_q51, .ref y_q59, .ref y_q67, .ref y_q75, .ref y_q83, .ref y_q92, .ref y_q100])), (y_q8, .inl (y_k8, 10008, .inl f42)), (y_q17, .inl (y_k17, 10008, .inl f43)), (y_q43, .inl (y_k43, 24, .inl f44)), (y_q51, .inl (y_k51, 24, .inl f45)), (y_q59, .inl (y_k59, 24, .inl f46)), (y_q67, .inl (y_k67, 24, .inl f47))]) hP hD [9, 10, 11, 14, 15, 16, 17] [0, 1, 2, 3, 4, 5, 6, 7, 8, 12, 13, 18, 19, 20, 21, 22] rfl rfl (by decide) (by decide) hk1 hFc hP1 hD1
    generalize H1 = H at hP hS ⊢
    have hP := hP.sub (ws' := [(q0, .inr (4, [.ref x_q7, .int u21, .ref x_q19, .ref x_q30])), (x_q7, .inl (x_k7, 24, .inr (.inr (.inr (.inr (va_up (fun _ => none) (0 : Int32).toNatClampNeg (some q39_224))))))), (x_q19, .inr (1, [.ref x_q8_23, .int 0])), (x_q8_23, .inl (x_k8_23, 10007, .inl (fun _ => 0))), (x_q30, .inr (3, [.ref x_q19, .ref x_q10_38, .ref x_q22_38])), (x_q10_38, .inr (2, [.ref x_q8_14_38, .ref x_q17_14_38, .null, .int 1, .int 0, .int (-1)])), (x_q8_14_38, .inl (x_k8_14_38, 10007, .inl (fun _ => 0))), (x_q17_14_38, .inl (x_k17_14_38, 128, .inl (fun _ => 0))), (x_q22_38, .inl (x_k22_38, 4, .inl (fun _ => 0))), (q8, .inr (5, [.int u36, .int u37, .int u38, .ref y_q8, .ref y_q17, .int u39, .ref y_q26, .int u40, .ref y_q35, .int u41, .ref y_q43, .ref y_q51, .ref y_q59, .ref y_q67, .ref y_q75, .ref y_q83, .ref y_q92, .ref y_q100])), (y_q8, .inl (y_k8, 10008, .inl f42)), (y_q17, .inl (y_k17, 10008, .inl f43)), (y_q26, .inl (y_k26, 10300, .inl (fun _ => 0))), (y_q35, .inl (y_k35, 10008, .inl (fun _ => 0))), (y_q43, .inl (y_k43, 24, .inl f44)), (y_q51, .inl (y_k51, 24, .inl f45)), (y_q59, .inl (y_k59, 24, .inl f46)), (y_q67, .inl (y_k67, 24, .inl f47)), (y_q75, .inl (y_k75, 24, .inl (fun _ => 0))), (y_q83, .inl (y_k83, 24, .inl (fun _ => 0))), (y_q92, .inl (y_k92, 10300, .inl (fun _ => 0))), (y_q100, .inl (y_k100, 64, .inl (fun _ => 0))), (q39_224, .inr (0, [.int u22, .int u23, .int u24, .int u25, .int u26, .int u27, .int u28, .int u29, .int u30, .int u31, .int u32, .int u33]))]) [0, 1, 2, 3, 4, 5, 6, 7, 8, 16, 17, 18, 9, 10, 19, 20, 21, 22, 11, 12, 13, 14, 15] rfl
    have hD := hD.sub (ws' := [(q0, .inr (4, [.ref x_q7, .int u21, .ref x_q19, .ref x_q30])), (x_q7, .inl (x_k7, 24, .inr (.inr (.inr (.inr (va_up (fun _ => none) (0 : Int32).toNatClampNeg (some q39_224))))))), (x_q19, .inr (1, [.ref x_q8_23, .int 0])), (x_q8_23, .inl (x_k8_23, 10007, .inl (fun _ => 0))), (x_q30, .inr (3, [.ref x_q19, .ref x_q10_38, .ref x_q22_38])), (x_q10_38, .inr (2, [.ref x_q8_14_38, .ref x_q17_14_38, .null, .int 1, .int 0, .int (-1)])), (x_q8_14_38, .inl (x_k8_14_38, 10007, .inl (fun _ => 0))), (x_q17_14_38, .inl (x_k17_14_38, 128, .inl (fun _ => 0))), (x_q22_38, .inl (x_k22_38, 4, .inl (fun _ => 0))), (q8, .inr (5, [.int u36, .int u37, .int u38, .ref y_q8, .ref y_q17, .int u39, .ref y_q26, .int u40, .ref y_q35, .int u41, .ref y_q43, .ref y_q51, .ref y_q59, .ref y_q67, .ref y_q75, .ref y_q83, .ref y_q92, .ref y_q100])), (y_q8, .inl (y_k8, 10008, .inl f42)), (y_q17, .inl (y_k17, 10008, .inl f43)), (y_q26, .inl (y_k26, 10300, .inl (fun _ => 0))), (y_q35, .inl (y_k35, 10008, .inl (fun _ => 0))), (y_q43, .inl (y_k43, 24, .inl f44)), (y_q51, .inl (y_k51, 24, .inl f45)), (y_q59, .inl (y_k59, 24, .inl f46)), (y_q67, .inl (y_k67, 24, .inl f47)), (y_q75, .inl (y_k75, 24, .inl (fun _ => 0))), (y_q83, .inl (y_k83, 24, .inl (fun _ => 0))), (y_q92, .inl (y_k92, 10300, .inl (fun _ => 0))), (y_q100, .inl (y_k100, 64, .inl (fun _ => 0))), (q39_224, .inr (0, [.int u22, .int u23, .int u24, .int u25, .int u26, .int u27, .int u28, .int u29, .int u30, .int u31, .int u32, .int u33]))]) [0, 1, 2, 3, 4, 5, 6, 7, 8, 16, 17, 18, 9, 10, 19, 20, 21, 22, 11, 12, 13, 14, 15] (by decide) rfl
    refine lv_icmp_eq (tgt := 1739) hx hb dL_law_246 (by decide) (fun c49 => ?_) (fun c49 => ?_)
    · exact law1_end hL C0 hAe (by decide +kernel) (by decide +kernel) hS ls (lv_sub hl [0, 3] rfl)
    · exact absurd (l1_eq_curve_r N hN1 hr1 hr35) c49
set_option maxHeartbeats 4000000 in
set_option maxRecDepth 100000 in
theorem law1_c1 {p : Program} {l : Launch} {e : Env} {s : State} {m : MethodId} {below : List Frame} {meth : Method} {c : Code} {b L : Nat} {xs : Nat → Int32} (hL : L ≤ 7) (hL7 : L = 7) (C0 : lw_At p s m meth c b L xs) (N : Nat) (hN1 : 20000 ≤ N) (dC : Nat → ClassId) (dI : Nat → Nat → Nat) (q0 x_q7 x_q19 x_q8_23 x_q30 x_q10_38 x_q8_14_38 x_q17_14_38 x_q22_38 q8 y_q8 y_q17 y_q26 y_q35 y_q43 y_q51 y_q59 y_q67 y_q75 y_q83 y_q92 y_q100 : Nat) (x_k7 x_k8_23 x_k8_14_38 x_k17_14_38 x_k22_38 y_k8 y_k17 y_k26 y_k35 y_k43 y_k51 y_k59 y_k67 y_k75 y_k83 y_k92 y_k100 : ClassId) {A : Nat → Prop} (hAe : A = fun q => s.heap.size ≤ q) (H : Heap) (locs : List Loc) (ls : Array Slot) (hN : nw_all s) (hK : va_K (dC, dI) vwCl [(x_k7, .object "PointRings$Curve"), (x_k8_23, .int), (x_k8_14_38, .int), (x_k17_14_38, .int), (x_k22_38, .int), (y_k8, .int), (y_k17, .int), (y_k26, .int), (y_k35, .int), (y_k43, .int), (y_k51, .int), (y_k59, .int), (y_k67, .int), (y_k75, .int), (y_k83, .int), (y_k92, .boolean), (y_k100, .boolean)] s) (hP : va_P (dC, dI) vwCl [(q0, .inr (4, [.ref x_q7, .int 0, .ref x_q19, .ref x_q30])), (x_q7, .inl (x_k7, 24, .inr (.inr (.inr (.inr (fun _ => none)))))), (x_q19, .inr (1, [.ref x_q8_23, .int 0])), (x_q8_23, .inl (x_k8_23, 10007, .inl (fun _ => 0))), (x_q30, .inr (3, [.ref x_q19, .ref x_q10_38, .ref x_q22_38])), (x_q10_38, .inr (2, [.ref x_q8_14_38, .ref x_q17_14_38, .null, .int 1, .int 0, .int (-1)])), (x_q8_14_38, .inl (x_k8_14_38, 10007, .inl (fun _ => 0))), (x_q17_14_38, .inl (x_k17_14_38, 128, .inl (fun _ => 0))), (x_q22_38, .inl (x_k22_38, 4, .inl (fun _ => 0))), (q8, .inr (5, [.int 0, .int 0, .int 0, .ref y_q8, .ref y_q17, .int 0, .ref y_q26, .int 0, .ref y_q35, .int 0, .ref y_q43, .ref y_q51, .ref y_q59, .ref y_q67, .ref y_q75, .ref y_q83, .ref y_q92, .ref y_q100])), (y_q8, .inl (y_k8, 10008, .inl (fun _ => 0))), (y_q17, .inl (y_k17, 10008, .inl (fun _ => 0))), (y_q26, .inl (y_k26, 10300, .inl (fun _ => 0))), (y_q35, .inl (y_k35, 10008, .inl (fun _ => 0))), (y_q43, .inl (y_k43, 24, .inl (fun _ => 0))), (y_q51, .inl (y_k51, 24, .inl (fun _ => 0))), (y_q59, .inl (y_k59, 24, .inl (fun _ => 0))), (y_q67, .inl (y_k67, 24, .inl (fun _ => 0))), (y_q75, .inl (y_k75, 24, .inl (fun _ => 0))), (y_q83, .inl (y_k83, 24, .inl (fun _ => 0))), (y_q92, .inl (y_k92, 10300, .inl (fun _ => 0))), (y_q100, .inl (y_k100, 64, .inl (fun _ => 0)))] H) (hD : va_D A [(q0, .inr (4, [.ref x_q7, .int 0, .ref x_q19, .ref x_q30])), (x_q7, .inl (x_k7, 24, .inr (.inr (.inr (.inr (fun _ => none)))))), (x_q19, .inr (1, [.ref x_q8_23, .int 0])), (x_q8_23, .inl (x_k8_23, 10007, .inl (fun _ => 0))), (x_q30, .inr (3, [.ref x_q19, .ref x_q10_38, .ref x_q22_38])), (x_q10_38, .inr (2, [.ref x_q8_14_38, .ref x_q17_14_38, .null, .int 1, .int 0, .int (-1)])), (x_q8_14_38, .inl (x_k8_14_38, 10007, .inl (fun _ => 0))), (x_q17_14_38, .inl (x_k17_14_38, 128, .inl (fun _ => 0))), (x_q22_38, .inl (x_k22_38, 4, .inl (fun _ => 0))), (q8, .inr (5, [.int 0, .int 0, .int 0, .ref y_q8, .ref y_q17, .int 0, .ref y_q26, .int 0, .ref y_q35, .int 0, .ref y_q43, .ref y_q51, .ref y_q59, .ref y_q67, .ref y_q75, .ref y_q83, .ref y_q92, .ref y_q100])), (y_q8, .inl (y_k8, 10008, .inl (fun _ => 0))), (y_q17, .inl (y_k17, 10008, .inl (fun _ => 0))), (y_q26, .inl (y_k26, 10300, .inl (fun _ => 0))), (y_q35, .inl (y_k35, 10008, .inl (fun _ => 0))), (y_q43, .inl (y_k43, 24, .inl (fun _ => 0))), (y_q51, .inl (y_k51, 24, .inl (fun _ => 0))), (y_q59, .inl (y_k59, 24, .inl (fun _ => 0))), (y_q67, .inl (y_k67, 24, .inl (fun _ => 0))), (y_q75, .inl (y_k75, 24, .inl (fun _ => 0))), (y_q83, .inl (y_k83, 24, .inl (fun _ => 0))), (y_q92, .inl (y_k92, 10300, .inl (fun _ => 0))), (y_q100, .inl (y_k100, 64, .inl (fun _ => 0)))]) (hS : va_S A s.heap H locs) (hl : lv_has ls 4 [(0, .ref b), (1, .ref q0), (2, .ref q8), (3, .int 0)]) : W p l e room_1 s m #[Value.ref b] below meth c H locs 22 71035 (lw_Z below #[Value.ref b] s) (F0 m 251 ls []) := by
  obtain ⟨hx, hb, hr, hml, hown, hts, hX, hbl, hlocks, hgv⟩ := id C0
  have hbA : ¬ A b := by rw [hAe]; exact Nat.not_le.mpr hbl
  have hA0 : ∀ q : Nat, s.heap.size ≤ q → A q := fun q h => by rw [hAe]; exact h
  refine lv_aload_n hx hb dL_law_251 rfl (lv_at hl 1 rfl) ?_
  refine lv_aload_n hx hb dL_law_252 rfl (lv_at hl 0 rfl) ?_
  refine lv_iload_n hx hb dL_law_253 rfl (lv_at hl 3 rfl) ?_
  refine lv_iconst (v := 1) hx hb dL_law_254 (by decide) ?_
  refine lv_iadd hx hb dL_law_255 ?_
  refine va_sld hx hb hX hbl hbA hS (l1_vin hL7 (vp_in_iff.mpr (by decide +kernel))) dL_law_256 ?_
  refine lv_topi (fun s1 es1 => ?_)
  refine lv_aload_n hx hb dL_law_257 rfl (lv_at hl 0 rfl) ?_
  refine lv_iload_n hx hb dL_law_258 rfl (lv_at hl 3 rfl) ?_
  refine lv_iconst (v := 2) hx hb dL_law_259 (by decide) ?_
  refine lv_iadd hx hb dL_law_260 ?_
  refine va_sld hx hb hX hbl hbA hS (l1_vin hL7 (vp_in_iff.mpr (by decide +kernel))) dL_law_261 ?_
  refine lv_topi (fun s2 es2 => ?_)
  have hPc := hP.sub (ws' := [(q0, .inr (4, [.ref x_q7, .int 0, .ref x_q19, .ref x_q30])), (x_q7, .inl (x_k7, 24, .inr (.inr (.inr (.inr (fun _ => none))))))]) [0, 1] rfl
  have hKc := hK.sub (tys' := [(x_k7, .object "PointRings$Curve")]) [0] rfl
  refine vp_callSi (W.runV (As := [.int s1, .int s2]) (rest := []) ⟨hx, hb, hml, hown, hts⟩ (ctX5_told_n l N dC dI  q0 x_q7 x_q19 x_q30 x_k7 0 (fun _ => none) s1 s2 (-2) rfl (l1_at N s1)) (cwV 2 hts gL1_X5_told_n rfl rfl rfl (by decide +kernel) ⟨Nat.le_of_ble_eq_true rfl, Nat.le_of_ble_eq_true rfl⟩) ⟨fun a U g mk q => by obtain ⟨q0, qP, qK, qN⟩ := q; exact ⟨q0, qP, va_K.moved (u := U) (U := U.calling g mk a) (Vm.Alike.refl U.vm) qK, nw_same (u := U) (U := U.calling g mk a) rfl qN⟩, va_recv hKc hPc (ci := 4) (q0 := 0) rfl rfl, fun U hU hW => ⟨rfl, by rw [hU]; exact hPc, va_K.moved hW.alike hKc, nw_warm hW hN⟩⟩ rfl rfl hl.1 rfl (lv_room (Nat.le_of_ble_eq_true rfl)) dL_law_262 ⟨by decide +kernel, by decide +kernel⟩) (fun q9 eq9 => ?_)
  subst q9
  refine lv_aload_n hx hb dL_law_265 rfl (lv_at hl 2 rfl) ?_
  refine lv_aload_n hx hb dL_law_266 rfl (lv_at hl 0 rfl) ?_
  refine lv_iload_n hx hb dL_law_267 rfl (lv_at hl 3 rfl) ?_
  refine lv_iconst (v := 1) hx hb dL_law_268 (by decide) ?_
  refine lv_iadd hx hb dL_law_269 ?_
  refine va_sld hx hb hX hbl hbA hS (l1_vin hL7 (vp_in_iff.mpr (by decide +kernel))) dL_law_270 ?_
  rw [← es1]
  refine lv_aload_n hx hb dL_law_271 rfl (lv_at hl 0 rfl) ?_
  refine lv_iload_n hx hb dL_law_272 rfl (lv_at hl 3 rfl) ?_
  refine lv_iconst (v := 2) hx hb dL_law_273 (by decide) ?_
  refine lv_iadd hx hb dL_law_274 ?_
  refine va_sld hx hb hX hbl hbA hS (l1_vin hL7 (vp_in_iff.mpr (by decide +kernel))) dL_law_275 ?_
  rw [← es2]
  have hPc := hP.sub (ws' := [(q8, .inr (5, [.int 0, .int 0, .int 0, .ref y_q8, .ref y_q17, .int 0, .ref y_q26, .int 0, .ref y_q35, .int 0, .ref y_q43, .ref y_q51, .ref y_q59, .ref y_q67, .ref y_q75, .ref y_q83, .ref y_q92, .ref y_q100]))]) [9] rfl
  have hKc := hK.sub (tys' := []) [] rfl
  refine vp_callSi (W.runV (As := [.int s1, .int s2]) (rest := [.int (-2)]) ⟨hx, hb, hml, hown, hts⟩ (ctX6_told_n l N dC dI  q8 y_q8 y_q17 y_q26 y_q35 y_q43 y_q51 y_q59 y_q67 y_q75 y_q83 y_q92 y_q100 0 0 0 0 0 0 s1 s2 (-2) rfl (l1_in N s1)) (cwV 2 hts gL1_X6_told_n rfl rfl rfl (by decide +kernel) ⟨Nat.le_of_ble_eq_true rfl, Nat.le_of_ble_eq_true rfl⟩) ⟨fun a U g mk q => by obtain ⟨q0, qP, qK, qN⟩ := q; exact ⟨q0, qP, va_K.moved (u := U) (U := U.calling g mk a) (Vm.Alike.refl U.vm) qK, nw_same (u := U) (U := U.calling g mk a) rfl qN⟩, va_recv hKc hPc (ci := 5) (q0 := 0) rfl rfl, fun U hU hW => ⟨rfl, by rw [hU]; exact hPc, va_K.moved hW.alike hKc, nw_warm hW hN⟩⟩ rfl rfl hl.1 rfl (lv_room (Nat.le_of_ble_eq_true rfl)) dL_law_276 ⟨by decide +kernel, by decide +kernel⟩) (fun q9 eq9 => ?_)
  subst q9
  refine lv_icmp_eq (tgt := 1739) hx hb dL_law_279 (by decide) (fun c52 => ?_) (fun c52 => ?_)
  · exact law1_end hL C0 hAe (by decide +kernel) (by decide +kernel) hS ls (lv_sub hl [0, 3] rfl)
  · exact absurd (rfl : (-2) = ((-2) : Int32)) c52
set_option maxHeartbeats 4000000 in
set_option maxRecDepth 100000 in
theorem law1_c2 {p : Program} {l : Launch} {e : Env} {s : State} {m : MethodId} {below : List Frame} {meth : Method} {c : Code} {b L : Nat} {xs : Nat → Int32} (hL : L ≤ 7) (hL7 : L = 7) (C0 : lw_At p s m meth c b L xs) (N : Nat) (hN1 : 20000 ≤ N) (dC : Nat → ClassId) (dI : Nat → Nat → Nat) (q0 x_q7 x_q19 x_q8_23 x_q30 x_q10_38 x_q8_14_38 x_q17_14_38 x_q22_38 q8 y_q8 y_q17 y_q26 y_q35 y_q43 y_q51 y_q59 y_q67 y_q75 y_q83 y_q92 y_q100 : Nat) (x_k7 x_k8_23 x_k8_14_38 x_k17_14_38 x_k22_38 y_k8 y_k17 y_k26 y_k35 y_k43 y_k51 y_k59 y_k67 y_k75 y_k83 y_k92 y_k100 : ClassId) {A : Nat → Prop} (hAe : A = fun q => s.heap.size ≤ q) (H : Heap) (locs : List Loc) (ls : Array Slot) (hN : nw_all s) (hK : va_K (dC, dI) vwCl [(x_k7, .object "PointRings$Curve"), (x_k8_23, .int), (x_k8_14_38, .int), (x_k17_14_38, .int), (x_k22_38, .int), (y_k8, .int), (y_k17, .int), (y_k26, .int), (y_k35, .int), (y_k43, .int), (y_k51, .int), (y_k59, .int), (y_k67, .int), (y_k75, .int), (y_k83, .int), (y_k92, .boolean), (y_k100, .boolean)] s) (hP : va_P (dC, dI) vwCl [(q0, .inr (4, [.ref x_q7, .int 0, .ref x_q19, .ref x_q30])), (x_q7, .inl (x_k7, 24, .inr (.inr (.inr (.inr (fun _ => none)))))), (x_q19, .inr (1, [.ref x_q8_23, .int 0])), (x_q8_23, .inl (x_k8_23, 10007, .inl (fun _ => 0))), (x_q30, .inr (3, [.ref x_q19, .ref x_q10_38, .ref x_q22_38])), (x_q10_38, .inr (2, [.ref x_q8_14_38, .ref x_q17_14_38, .null, .int 1, .int 0, .int (-1)])), (x_q8_14_38, .inl (x_k8_14_38, 10007, .inl (fun _ => 0))), (x_q17_14_38, .inl (x_k17_14_38, 128, .inl (fun _ => 0))), (x_q22_38, .inl (x_k22_38, 4, .inl (fun _ => 0))), (q8, .inr (5, [.int 0, .int 0, .int 0, .ref y_q8, .ref y_q17, .int 0, .ref y_q26, .int 0, .ref y_q35, .int 0, .ref y_q43, .ref y_q51, .ref y_q59, .ref y_q67, .ref y_q75, .ref y_q83, .ref y_q92, .ref y_q100])), (y_q8, .inl (y_k8, 10008, .inl (fun _ => 0))), (y_q17, .inl (y_k17, 10008, .inl (fun _ => 0))), (y_q26, .inl (y_k26, 10300, .inl (fun _ => 0))), (y_q35, .inl (y_k35, 10008, .inl (fun _ => 0))), (y_q43, .inl (y_k43, 24, .inl (fun _ => 0))), (y_q51, .inl (y_k51, 24, .inl (fun _ => 0))), (y_q59, .inl (y_k59, 24, .inl (fun _ => 0))), (y_q67, .inl (y_k67, 24, .inl (fun _ => 0))), (y_q75, .inl (y_k75, 24, .inl (fun _ => 0))), (y_q83, .inl (y_k83, 24, .inl (fun _ => 0))), (y_q92, .inl (y_k92, 10300, .inl (fun _ => 0))), (y_q100, .inl (y_k100, 64, .inl (fun _ => 0)))] H) (hD : va_D A [(q0, .inr (4, [.ref x_q7, .int 0, .ref x_q19, .ref x_q30])), (x_q7, .inl (x_k7, 24, .inr (.inr (.inr (.inr (fun _ => none)))))), (x_q19, .inr (1, [.ref x_q8_23, .int 0])), (x_q8_23, .inl (x_k8_23, 10007, .inl (fun _ => 0))), (x_q30, .inr (3, [.ref x_q19, .ref x_q10_38, .ref x_q22_38])), (x_q10_38, .inr (2, [.ref x_q8_14_38, .ref x_q17_14_38, .null, .int 1, .int 0, .int (-1)])), (x_q8_14_38, .inl (x_k8_14_38, 10007, .inl (fun _ => 0))), (x_q17_14_38, .inl (x_k17_14_38, 128, .inl (fun _ => 0))), (x_q22_38, .inl (x_k22_38, 4, .inl (fun _ => 0))), (q8, .inr (5, [.int 0, .int 0, .int 0, .ref y_q8, .ref y_q17, .int 0, .ref y_q26, .int 0, .ref y_q35, .int 0, .ref y_q43, .ref y_q51, .ref y_q59, .ref y_q67, .ref y_q75, .ref y_q83, .ref y_q92, .ref y_q100])), (y_q8, .inl (y_k8, 10008, .inl (fun _ => 0))), (y_q17, .inl (y_k17, 10008, .inl (fun _ => 0))), (y_q26, .inl (y_k26, 10300, .inl (fun _ => 0))), (y_q35, .inl (y_k35, 10008, .inl (fun _ => 0))), (y_q43, .inl (y_k43, 24, .inl (fun _ => 0))), (y_q51, .inl (y_k51, 24, .inl (fun _ => 0))), (y_q59, .inl (y_k59, 24, .inl (fun _ => 0))), (y_q67, .inl (y_k67, 24, .inl (fun _ => 0))), (y_q75, .inl (y_k75, 24, .inl (fun _ => 0))), (y_q83, .inl (y_k83, 24, .inl (fun _ => 0))), (y_q92, .inl (y_k92, 10300, .inl (fun _ => 0))), (y_q100, .inl (y_k100, 64, .inl (fun _ => 0)))]) (hS : va_S A s.heap H locs) (hl : lv_has ls 4 [(0, .ref b), (1, .ref q0), (2, .ref q8), (3, .int 0)]) : W p l e room_1 s m #[Value.ref b] below meth c H locs 22 71035 (lw_Z below #[Value.ref b] s) (F0 m 284 ls []) := by
  obtain ⟨hx, hb, hr, hml, hown, hts, hX, hbl, hlocks, hgv⟩ := id C0
  have hbA : ¬ A b := by rw [hAe]; exact Nat.not_le.mpr hbl
  have hA0 : ∀ q : Nat, s.heap.size ≤ q → A q := fun q h => by rw [hAe]; exact h
  refine lv_aload_n hx hb dL_law_284 rfl (lv_at hl 1 rfl) ?_
  refine lv_aload_n hx hb dL_law_285 rfl (lv_at hl 0 rfl) ?_
  refine lv_iload_n hx hb dL_law_286 rfl (lv_at hl 3 rfl) ?_
  refine lv_iconst (v := 1) hx hb dL_law_287 (by decide) ?_
  refine lv_iadd hx hb dL_law_288 ?_
  refine va_sld hx hb hX hbl hbA hS (l1_vin hL7 (vp_in_iff.mpr (by decide +kernel))) dL_law_289 ?_
  refine lv_topi (fun s1 es1 => ?_)
  have hPc := hP.sub (ws' := [(q0, .inr (4, [.ref x_q7, .int 0, .ref x_q19, .ref x_q30])), (x_q7, .inl (x_k7, 24, .inr (.inr (.inr (.inr (fun _ => none))))))]) [0, 1] rfl
  have hKc := hK.sub (tys' := [(x_k7, .object "PointRings$Curve")]) [0] rfl
  refine vp_callSi (W.runV (As := [.int s1]) (rest := []) ⟨hx, hb, hml, hown, hts⟩ (ctX5_twist_n l N dC dI  q0 x_q7 x_q19 x_q30 x_k7 0 (fun _ => none) s1 (-2) rfl (l1_at N s1)) (cwV 1 hts gL1_X5_twist_n rfl rfl rfl (by decide +kernel) ⟨Nat.le_of_ble_eq_true rfl, Nat.le_of_ble_eq_true rfl⟩) ⟨fun a U g mk q => by obtain ⟨q0, qP, qK, qN⟩ := q; exact ⟨q0, qP, va_K.moved (u := U) (U := U.calling g mk a) (Vm.Alike.refl U.vm) qK, nw_same (u := U) (U := U.calling g mk a) rfl qN⟩, va_recv hKc hPc (ci := 4) (q0 := 0) rfl rfl, fun U hU hW => ⟨rfl, by rw [hU]; exact hPc, va_K.moved hW.alike hKc, nw_warm hW hN⟩⟩ rfl rfl hl.1 rfl (lv_room (Nat.le_of_ble_eq_true rfl)) dL_law_290 ⟨by decide +kernel, by decide +kernel⟩) (fun q9 eq9 => ?_)
  subst q9
  refine lv_aload_n hx hb dL_law_293 rfl (lv_at hl 2 rfl) ?_
  refine lv_aload_n hx hb dL_law_294 rfl (lv_at hl 0 rfl) ?_
  refine lv_iload_n hx hb dL_law_295 rfl (lv_at hl 3 rfl) ?_
  refine lv_iconst (v := 1) hx hb dL_law_296 (by decide) ?_
  refine lv_iadd hx hb dL_law_297 ?_
  refine va_sld hx hb hX hbl hbA hS (l1_vin hL7 (vp_in_iff.mpr (by decide +kernel))) dL_law_298 ?_
  rw [← es1]
  have hPc := hP.sub (ws' := [(q8, .inr (5, [.int 0, .int 0, .int 0, .ref y_q8, .ref y_q17, .int 0, .ref y_q26, .int 0, .ref y_q35, .int 0, .ref y_q43, .ref y_q51, .ref y_q59, .ref y_q67, .ref y_q75, .ref y_q83, .ref y_q92, .ref y_q100]))]) [9] rfl
  have hKc := hK.sub (tys' := []) [] rfl
  refine vp_callSi (W.runV (As := [.int s1]) (rest := [.int (-2)]) ⟨hx, hb, hml, hown, hts⟩ (ctX6_twist_n l N dC dI  q8 y_q8 y_q17 y_q26 y_q35 y_q43 y_q51 y_q59 y_q67 y_q75 y_q83 y_q92 y_q100 0 0 0 0 0 0 s1 (-2) rfl (l1_in N s1)) (cwV 1 hts gL1_X6_twist_n rfl rfl rfl (by decide +kernel) ⟨Nat.le_of_ble_eq_true rfl, Nat.le_of_ble_eq_true rfl⟩) ⟨fun a U g mk q => by obtain ⟨q0, qP, qK, qN⟩ := q; exact ⟨q0, qP, va_K.moved (u := U) (U := U.calling g mk a) (Vm.Alike.refl U.vm) qK, nw_same (u := U) (U := U.calling g mk a) rfl qN⟩, va_recv hKc hPc (ci := 5) (q0 := 0) rfl rfl, fun U hU hW => ⟨rfl, by rw [hU]; exact hPc, va_K.moved hW.alike hKc, nw_warm hW hN⟩⟩ rfl rfl hl.1 rfl (lv_room (Nat.le_of_ble_eq_true rfl)) dL_law_299 ⟨by decide +kernel, by decide +kernel⟩) (fun q9 eq9 => ?_)
  subst q9
  refine lv_icmp_eq (tgt := 1739) hx hb dL_law_302 (by decide) (fun c55 => ?_) (fun c55 => ?_)
  · exact law1_end hL C0 hAe (by decide +kernel) (by decide +kernel) hS ls (lv_sub hl [0, 3] rfl)
  · exact absurd (rfl : (-2) = ((-2) : Int32)) c55
set_option maxHeartbeats 4000000 in
set_option maxRecDepth 100000 in
theorem law1_c3 {p : Program} {l : Launch} {e : Env} {s : State} {m : MethodId} {below : List Frame} {meth : Method} {c : Code} {b L : Nat} {xs : Nat → Int32} (hL : L ≤ 7) (hL7 : L = 7) (C0 : lw_At p s m meth c b L xs) (N : Nat) (hN1 : 20000 ≤ N) (dC : Nat → ClassId) (dI : Nat → Nat → Nat) (q0 x_q7 x_q19 x_q8_23 x_q30 x_q10_38 x_q8_14_38 x_q17_14_38 x_q22_38 q8 y_q8 y_q17 y_q26 y_q35 y_q43 y_q51 y_q59 y_q67 y_q75 y_q83 y_q92 y_q100 : Nat) (x_k7 x_k8_23 x_k8_14_38 x_k17_14_38 x_k22_38 y_k8 y_k17 y_k26 y_k35 y_k43 y_k51 y_k59 y_k67 y_k75 y_k83 y_k92 y_k100 : ClassId) {A : Nat → Prop} (hAe : A = fun q => s.heap.size ≤ q) (H : Heap) (locs : List Loc) (ls : Array Slot) (hN : nw_all s) (hK : va_K (dC, dI) vwCl [(x_k7, .object "PointRings$Curve"), (x_k8_23, .int), (x_k8_14_38, .int), (x_k17_14_38, .int), (x_k22_38, .int), (y_k8, .int), (y_k17, .int), (y_k26, .int), (y_k35, .int), (y_k43, .int), (y_k51, .int), (y_k59, .int), (y_k67, .int), (y_k75, .int), (y_k83, .int), (y_k92, .boolean), (y_k100, .boolean)] s) (hP : va_P (dC, dI) vwCl [(q0, .inr (4, [.ref x_q7, .int 0, .ref x_q19, .ref x_q30])), (x_q7, .inl (x_k7, 24, .inr (.inr (.inr (.inr (fun _ => none)))))), (x_q19, .inr (1, [.ref x_q8_23, .int 0])), (x_q8_23, .inl (x_k8_23, 10007, .inl (fun _ => 0))), (x_q30, .inr (3, [.ref x_q19, .ref x_q10_38, .ref x_q22_38])), (x_q10_38, .inr (2, [.ref x_q8_14_38, .ref x_q17_14_38, .null, .int 1, .int 0, .int (-1)])), (x_q8_14_38, .inl (x_k8_14_38, 10007, .inl (fun _ => 0))), (x_q17_14_38, .inl (x_k17_14_38, 128, .inl (fun _ => 0))), (x_q22_38, .inl (x_k22_38, 4, .inl (fun _ => 0))), (q8, .inr (5, [.int 0, .int 0, .int 0, .ref y_q8, .ref y_q17, .int 0, .ref y_q26, .int 0, .ref y_q35, .int 0, .ref y_q43, .ref y_q51, .ref y_q59, .ref y_q67, .ref y_q75, .ref y_q83, .ref y_q92, .ref y_q100])), (y_q8, .inl (y_k8, 10008, .inl (fun _ => 0))), (y_q17, .inl (y_k17, 10008, .inl (fun _ => 0))), (y_q26, .inl (y_k26, 10300, .inl (fun _ => 0))), (y_q35, .inl (y_k35, 10008, .inl (fun _ => 0))), (y_q43, .inl (y_k43, 24, .inl (fun _ => 0))), (y_q51, .inl (y_k51, 24, .inl (fun _ => 0))), (y_q59, .inl (y_k59, 24, .inl (fun _ => 0))), (y_q67, .inl (y_k67, 24, .inl (fun _ => 0))), (y_q75, .inl (y_k75, 24, .inl (fun _ => 0))), (y_q83, .inl (y_k83, 24, .inl (fun _ => 0))), (y_q92, .inl (y_k92, 10300, .inl (fun _ => 0))), (y_q100, .inl (y_k100, 64, .inl (fun _ => 0)))] H) (hD : va_D A [(q0, .inr (4, [.ref x_q7, .int 0, .ref x_q19, .ref x_q30])), (x_q7, .inl (x_k7, 24, .inr (.inr (.inr (.inr (fun _ => none)))))), (x_q19, .inr (1, [.ref x_q8_23, .int 0])), (x_q8_23, .inl (x_k8_23, 10007, .inl (fun _ => 0))), (x_q30, .inr (3, [.ref x_q19, .ref x_q10_38, .ref x_q22_38])), (x_q10_38, .inr (2, [.ref x_q8_14_38, .ref x_q17_14_38, .null, .int 1, .int 0, .int (-1)])), (x_q8_14_38, .inl (x_k8_14_38, 10007, .inl (fun _ => 0))), (x_q17_14_38, .inl (x_k17_14_38, 128, .inl (fun _ => 0))), (x_q22_38, .inl (x_k22_38, 4, .inl (fun _ => 0))), (q8, .inr (5, [.int 0, .int 0, .int 0, .ref y_q8, .ref y_q17, .int 0, .ref y_q26, .int 0, .ref y_q35, .int 0, .ref y_q43, .ref y_q51, .ref y_q59, .ref y_q67, .ref y_q75, .ref y_q83, .ref y_q92, .ref y_q100])), (y_q8, .inl (y_k8, 10008, .inl (fun _ => 0))), (y_q17, .inl (y_k17, 10008, .inl (fun _ => 0))), (y_q26, .inl (y_k26, 10300, .inl (fun _ => 0))), (y_q35, .inl (y_k35, 10008, .inl (fun _ => 0))), (y_q43, .inl (y_k43, 24, .inl (fun _ => 0))), (y_q51, .inl (y_k51, 24, .inl (fun _ => 0))), (y_q59, .inl (y_k59, 24, .inl (fun _ => 0))), (y_q67, .inl (y_k67, 24, .inl (fun _ => 0))), (y_q75, .inl (y_k75, 24, .inl (fun _ => 0))), (y_q83, .inl (y_k83, 24, .inl (fun _ => 0))), (y_q92, .inl (y_k92, 10300, .inl (fun _ => 0))), (y_q100, .inl (y_k100, 64, .inl (fun _ => 0)))]) (hS : va_S A s.heap H locs) (hl : lv_has ls 4 [(0, .ref b), (1, .ref q0), (2, .ref q8), (3, .int 0)]) : W p l e room_1 s m #[Value.ref b] below meth c H locs 22 71035 (lw_Z below #[Value.ref b] s) (F0 m 307 ls []) := by
  obtain ⟨hx, hb, hr, hml, hown, hts, hX, hbl, hlocks, hgv⟩ := id C0
  have hbA : ¬ A b := by rw [hAe]; exact Nat.not_le.mpr hbl
  have hA0 : ∀ q : Nat, s.heap.size ≤ q → A q := fun q h => by rw [hAe]; exact h
  refine lv_aload_n hx hb dL_law_307 rfl (lv_at hl 1 rfl) ?_
  refine lv_aload_n hx hb dL_law_308 rfl (lv_at hl 0 rfl) ?_
  refine lv_iload_n hx hb dL_law_309 rfl (lv_at hl 3 rfl) ?_
  refine lv_iconst (v := 1) hx hb dL_law_310 (by decide) ?_
  refine lv_iadd hx hb dL_law_311 ?_
  refine va_sld hx hb hX hbl hbA hS (l1_vin hL7 (vp_in_iff.mpr (by decide +kernel))) dL_law_312 ?_
  refine lv_topi (fun s1 es1 => ?_)
  refine lv_aload_n hx hb dL_law_313 rfl (lv_at hl 0 rfl) ?_
  refine lv_iload_n hx hb dL_law_314 rfl (lv_at hl 3 rfl) ?_
  refine lv_iconst (v := 2) hx hb dL_law_315 (by decide) ?_
  refine lv_iadd hx hb dL_law_316 ?_
  refine va_sld hx hb hX hbl hbA hS (l1_vin hL7 (vp_in_iff.mpr (by decide +kernel))) dL_law_317 ?_
  refine lv_topi (fun s2 es2 => ?_)
  have hPc := hP.sub (ws' := [(q0, .inr (4, [.ref x_q7, .int 0, .ref x_q19, .ref x_q30])), (x_q7, .inl (x_k7, 24, .inr (.inr (.inr (.inr (fun _ => none))))))]) [0, 1] rfl
  have hKc := hK.sub (tys' := [(x_k7, .object "PointRings$Curve")]) [0] rfl
  refine vp_callSi (W.runV (As := [.int s1, .int s2]) (rest := []) ⟨hx, hb, hml, hown, hts⟩ (ctX5_map_n l N dC dI  q0 x_q7 x_q19 x_q30 x_k7 0 (fun _ => none) s1 s2 (-2) rfl (l1_at N s1) (l1_at N s2)) (cwV 2 hts gL1_X5_map_n rfl rfl rfl (by decide +kernel) ⟨Nat.le_of_ble_eq_true rfl, Nat.le_of_ble_eq_true rfl⟩) ⟨fun a U g mk q => by obtain ⟨q0, qP, qK, qN⟩ := q; exact ⟨q0, qP, va_K.moved (u := U) (U := U.calling g mk a) (Vm.Alike.refl U.vm) qK, nw_same (u := U) (U := U.calling g mk a) rfl qN⟩, va_recv hKc hPc (ci := 4) (q0 := 0) rfl rfl, fun U hU hW => ⟨rfl, by rw [hU]; exact hPc, va_K.moved hW.alike hKc, nw_warm hW hN⟩⟩ rfl rfl hl.1 rfl (lv_room (Nat.le_of_ble_eq_true rfl)) dL_law_318 ⟨by decide +kernel, by decide +kernel⟩) (fun q9 eq9 => ?_)
  subst q9
  refine lv_aload_n hx hb dL_law_321 rfl (lv_at hl 2 rfl) ?_
  refine lv_aload_n hx hb dL_law_322 rfl (lv_at hl 0 rfl) ?_
  refine lv_iload_n hx hb dL_law_323 rfl (lv_at hl 3 rfl) ?_
  refine lv_iconst (v := 1) hx hb dL_law_324 (by decide) ?_
  refine lv_iadd hx hb dL_law_325 ?_
  refine va_sld hx hb hX hbl hbA hS (l1_vin hL7 (vp_in_iff.mpr (by decide +kernel))) dL_law_326 ?_
  rw [← es1]
  refine lv_aload_n hx hb dL_law_327 rfl (lv_at hl 0 rfl) ?_
  refine lv_iload_n hx hb dL_law_328 rfl (lv_at hl 3 rfl) ?_
  refine lv_iconst (v := 2) hx hb dL_law_329 (by decide) ?_
  refine lv_iadd hx hb dL_law_330 ?_
  refine va_sld hx hb hX hbl hbA hS (l1_vin hL7 (vp_in_iff.mpr (by decide +kernel))) dL_law_331 ?_
  rw [← es2]
  have hPc := hP.sub (ws' := [(q8, .inr (5, [.int 0, .int 0, .int 0, .ref y_q8, .ref y_q17, .int 0, .ref y_q26, .int 0, .ref y_q35, .int 0, .ref y_q43, .ref y_q51, .ref y_q59, .ref y_q67, .ref y_q75, .ref y_q83, .ref y_q92, .ref y_q100]))]) [9] rfl
  have hKc := hK.sub (tys' := []) [] rfl
  refine vp_callSi (W.runV (As := [.int s1, .int s2]) (rest := [.int (-2)]) ⟨hx, hb, hml, hown, hts⟩ (ctX6_map_n l N dC dI  q8 y_q8 y_q17 y_q26 y_q35 y_q43 y_q51 y_q59 y_q67 y_q75 y_q83 y_q92 y_q100 0 0 0 0 0 0 s1 s2 (-2) rfl (l1_in N s2)) (cwV 2 hts gL1_X6_map_n rfl rfl rfl (by decide +kernel) ⟨Nat.le_of_ble_eq_true rfl, Nat.le_of_ble_eq_true rfl⟩) ⟨fun a U g mk q => by obtain ⟨q0, qP, qK, qN⟩ := q; exact ⟨q0, qP, va_K.moved (u := U) (U := U.calling g mk a) (Vm.Alike.refl U.vm) qK, nw_same (u := U) (U := U.calling g mk a) rfl qN⟩, va_recv hKc hPc (ci := 5) (q0 := 0) rfl rfl, fun U hU hW => ⟨rfl, by rw [hU]; exact hPc, va_K.moved hW.alike hKc, nw_warm hW hN⟩⟩ rfl rfl hl.1 rfl (lv_room (Nat.le_of_ble_eq_true rfl)) dL_law_332 ⟨by decide +kernel, by decide +kernel⟩) (fun q9 eq9 => ?_)
  subst q9
  refine lv_icmp_eq (tgt := 1739) hx hb dL_law_335 (by decide) (fun c58 => ?_) (fun c58 => ?_)
  · exact law1_end hL C0 hAe (by decide +kernel) (by decide +kernel) hS ls (lv_sub hl [0, 3] rfl)
  · exact absurd (rfl : (-2) = ((-2) : Int32)) c58
set_option maxHeartbeats 4000000 in
set_option maxRecDepth 100000 in
theorem law1_c4 {p : Program} {l : Launch} {e : Env} {s : State} {m : MethodId} {below : List Frame} {meth : Method} {c : Code} {b L : Nat} {xs : Nat → Int32} (hL : L ≤ 7) (hL7 : L = 7) (C0 : lw_At p s m meth c b L xs) (N : Nat) (hN1 : 20000 ≤ N) (dC : Nat → ClassId) (dI : Nat → Nat → Nat) (q0 x_q7 x_q19 x_q8_23 x_q30 x_q10_38 x_q8_14_38 x_q17_14_38 x_q22_38 q8 y_q8 y_q17 y_q26 y_q35 y_q43 y_q51 y_q59 y_q67 y_q75 y_q83 y_q92 y_q100 : Nat) (x_k7 x_k8_23 x_k8_14_38 x_k17_14_38 x_k22_38 y_k8 y_k17 y_k26 y_k35 y_k43 y_k51 y_k59 y_k67 y_k75 y_k83 y_k92 y_k100 : ClassId) {A : Nat → Prop} (hAe : A = fun q => s.heap.size ≤ q) (H : Heap) (locs : List Loc) (ls : Array Slot) (hN : nw_all s) (hK : va_K (dC, dI) vwCl [(x_k7, .object "PointRings$Curve"), (x_k8_23, .int), (x_k8_14_38, .int), (x_k17_14_38, .int), (x_k22_38, .int), (y_k8, .int), (y_k17, .int), (y_k26, .int), (y_k35, .int), (y_k43, .int), (y_k51, .int), (y_k59, .int), (y_k67, .int), (y_k75, .int), (y_k83, .int), (y_k92, .boolean), (y_k100, .boolean)] s) (hP : va_P (dC, dI) vwCl [(q0, .inr (4, [.ref x_q7, .int 0, .ref x_q19, .ref x_q30])), (x_q7, .inl (x_k7, 24, .inr (.inr (.inr (.inr (fun _ => none)))))), (x_q19, .inr (1, [.ref x_q8_23, .int 0])), (x_q8_23, .inl (x_k8_23, 10007, .inl (fun _ => 0))), (x_q30, .inr (3, [.ref x_q19, .ref x_q10_38, .ref x_q22_38])), (x_q10_38, .inr (2, [.ref x_q8_14_38, .ref x_q17_14_38, .null, .int 1, .int 0, .int (-1)])), (x_q8_14_38, .inl (x_k8_14_38, 10007, .inl (fun _ => 0))), (x_q17_14_38, .inl (x_k17_14_38, 128, .inl (fun _ => 0))), (x_q22_38, .inl (x_k22_38, 4, .inl (fun _ => 0))), (q8, .inr (5, [.int 0, .int 0, .int 0, .ref y_q8, .ref y_q17, .int 0, .ref y_q26, .int 0, .ref y_q35, .int 0, .ref y_q43, .ref y_q51, .ref y_q59, .ref y_q67, .ref y_q75, .ref y_q83, .ref y_q92, .ref y_q100])), (y_q8, .inl (y_k8, 10008, .inl (fun _ => 0))), (y_q17, .inl (y_k17, 10008, .inl (fun _ => 0))), (y_q26, .inl (y_k26, 10300, .inl (fun _ => 0))), (y_q35, .inl (y_k35, 10008, .inl (fun _ => 0))), (y_q43, .inl (y_k43, 24, .inl (fun _ => 0))), (y_q51, .inl (y_k51, 24, .inl (fun _ => 0))), (y_q59, .inl (y_k59, 24, .inl (fun _ => 0))), (y_q67, .inl (y_k67, 24, .inl (fun _ => 0))), (y_q75, .inl (y_k75, 24, .inl (fun _ => 0))), (y_q83, .inl (y_k83, 24, .inl (fun _ => 0))), (y_q92, .inl (y_k92, 10300, .inl (fun _ => 0))), (y_q100, .inl (y_k100, 64, .inl (fun _ => 0)))] H) (hD : va_D A [(q0, .inr (4, [.ref x_q7, .int 0, .ref x_q19, .ref x_q30])), (x_q7, .inl (x_k7, 24, .inr (.inr (.inr (.inr (fun _ => none)))))), (x_q19, .inr (1, [.ref x_q8_23, .int 0])), (x_q8_23, .inl (x_k8_23, 10007, .inl (fun _ => 0))), (x_q30, .inr (3, [.ref x_q19, .ref x_q10_38, .ref x_q22_38])), (x_q10_38, .inr (2, [.ref x_q8_14_38, .ref x_q17_14_38, .null, .int 1, .int 0, .int (-1)])), (x_q8_14_38, .inl (x_k8_14_38, 10007, .inl (fun _ => 0))), (x_q17_14_38, .inl (x_k17_14_38, 128, .inl (fun _ => 0))), (x_q22_38, .inl (x_k22_38, 4, .inl (fun _ => 0))), (q8, .inr (5, [.int 0, .int 0, .int 0, .ref y_q8, .ref y_q17, .int 0, .ref y_q26, .int 0, .ref y_q35, .int 0, .ref y_q43, .ref y_q51, .ref y_q59, .ref y_q67, .ref y_q75, .ref y_q83, .ref y_q92, .ref y_q100])), (y_q8, .inl (y_k8, 10008, .inl (fun _ => 0))), (y_q17, .inl (y_k17, 10008, .inl (fun _ => 0))), (y_q26, .inl (y_k26, 10300, .inl (fun _ => 0))), (y_q35, .inl (y_k35, 10008, .inl (fun _ => 0))), (y_q43, .inl (y_k43, 24, .inl (fun _ => 0))), (y_q51, .inl (y_k51, 24, .inl (fun _ => 0))), (y_q59, .inl (y_k59, 24, .inl (fun _ => 0))), (y_q67, .inl (y_k67, 24, .inl (fun _ => 0))), (y_q75, .inl (y_k75, 24, .inl (fun _ => 0))), (y_q83, .inl (y_k83, 24, .inl (fun _ => 0))), (y_q92, .inl (y_k92, 10300, .inl (fun _ => 0))), (y_q100, .inl (y_k100, 64, .inl (fun _ => 0)))]) (hS : va_S A s.heap H locs) (hl : lv_has ls 4 [(0, .ref b), (1, .ref q0), (2, .ref q8), (3, .int 0)]) : W p l e room_1 s m #[Value.ref b] below meth c H locs 22 71035 (lw_Z below #[Value.ref b] s) (F0 m 340 ls []) := by
  obtain ⟨hx, hb, hr, hml, hown, hts, hX, hbl, hlocks, hgv⟩ := id C0
  have hbA : ¬ A b := by rw [hAe]; exact Nat.not_le.mpr hbl
  have hA0 : ∀ q : Nat, s.heap.size ≤ q → A q := fun q h => by rw [hAe]; exact h
  refine lv_aload_n hx hb dL_law_340 rfl (lv_at hl 1 rfl) ?_
  refine lv_aload_n hx hb dL_law_341 rfl (lv_at hl 0 rfl) ?_
  refine lv_iload_n hx hb dL_law_342 rfl (lv_at hl 3 rfl) ?_
  refine lv_iconst (v := 1) hx hb dL_law_343 (by decide) ?_
  refine lv_iadd hx hb dL_law_344 ?_
  refine va_sld hx hb hX hbl hbA hS (l1_vin hL7 (vp_in_iff.mpr (by decide +kernel))) dL_law_345 ?_
  refine lv_topi (fun s1 es1 => ?_)
  refine lv_aload_n hx hb dL_law_346 rfl (lv_at hl 0 rfl) ?_
  refine lv_iload_n hx hb dL_law_347 rfl (lv_at hl 3 rfl) ?_
  refine lv_iconst (v := 2) hx hb dL_law_348 (by decide) ?_
  refine lv_iadd hx hb dL_law_349 ?_
  refine va_sld hx hb hX hbl hbA hS (l1_vin hL7 (vp_in_iff.mpr (by decide +kernel))) dL_law_350 ?_
  refine lv_topi (fun s2 es2 => ?_)
  refine lv_aload_n hx hb dL_law_351 rfl (lv_at hl 0 rfl) ?_
  refine lv_iload_n hx hb dL_law_352 rfl (lv_at hl 3 rfl) ?_
  refine lv_iconst (v := 3) hx hb dL_law_353 (by decide) ?_
  refine lv_iadd hx hb dL_law_354 ?_
  refine va_sld hx hb hX hbl hbA hS (l1_vin hL7 (vp_in_iff.mpr (by decide +kernel))) dL_law_355 ?_
  refine lv_topi (fun s3 es3 => ?_)
  have hPc := hP.sub (ws' := [(q0, .inr (4, [.ref x_q7, .int 0, .ref x_q19, .ref x_q30])), (x_q7, .inl (x_k7, 24, .inr (.inr (.inr (.inr (fun _ => none))))))]) [0, 1] rfl
  have hKc := hK.sub (tys' := [(x_k7, .object "PointRings$Curve")]) [0] rfl
  refine vp_callSi (W.runV (As := [.int s1, .int s2, .int s3]) (rest := []) ⟨hx, hb, hml, hown, hts⟩ (ctX5_mapped_n l N dC dI  q0 x_q7 x_q19 x_q30 x_k7 0 (fun _ => none) s1 s2 s3 (-2) rfl (l1_at N s1)) (cwV 3 hts gL1_X5_mapped_n rfl rfl rfl (by decide +kernel) ⟨Nat.le_of_ble_eq_true rfl, Nat.le_of_ble_eq_true rfl⟩) ⟨fun a U g mk q => by obtain ⟨q0, qP, qK, qN⟩ := q; exact ⟨q0, qP, va_K.moved (u := U) (U := U.calling g mk a) (Vm.Alike.refl U.vm) qK, nw_same (u := U) (U := U.calling g mk a) rfl qN⟩, va_recv hKc hPc (ci := 4) (q0 := 0) rfl rfl, fun U hU hW => ⟨rfl, by rw [hU]; exact hPc, va_K.moved hW.alike hKc, nw_warm hW hN⟩⟩ rfl rfl hl.1 rfl (lv_room (Nat.le_of_ble_eq_true rfl)) dL_law_356 ⟨by decide +kernel, by decide +kernel⟩) (fun q9 eq9 => ?_)
  subst q9
  refine lv_aload_n hx hb dL_law_359 rfl (lv_at hl 2 rfl) ?_
  refine lv_aload_n hx hb dL_law_360 rfl (lv_at hl 0 rfl) ?_
  refine lv_iload_n hx hb dL_law_361 rfl (lv_at hl 3 rfl) ?_
  refine lv_iconst (v := 1) hx hb dL_law_362 (by decide) ?_
  refine lv_iadd hx hb dL_law_363 ?_
  refine va_sld hx hb hX hbl hbA hS (l1_vin hL7 (vp_in_iff.mpr (by decide +kernel))) dL_law_364 ?_
  rw [← es1]
  refine lv_aload_n hx hb dL_law_365 rfl (lv_at hl 0 rfl) ?_
  refine lv_iload_n hx hb dL_law_366 rfl (lv_at hl 3 rfl) ?_
  refine lv_iconst (v := 2) hx hb dL_law_367 (by decide) ?_
  refine lv_iadd hx hb dL_law_368 ?_
  refine va_sld hx hb hX hbl hbA hS (l1_vin hL7 (vp_in_iff.mpr (by decide +kernel))) dL_law_369 ?_
  rw [← es2]
  refine lv_aload_n hx hb dL_law_370 rfl (lv_at hl 0 rfl) ?_
  refine lv_iload_n hx hb dL_law_371 rfl (lv_at hl 3 rfl) ?_
  refine lv_iconst (v := 3) hx hb dL_law_372 (by decide) ?_
  refine lv_iadd hx hb dL_law_373 ?_
  refine va_sld hx hb hX hbl hbA hS (l1_vin hL7 (vp_in_iff.mpr (by decide +kernel))) dL_law_374 ?_
  rw [← es3]
  have hPc := hP.sub (ws' := [(q8, .inr (5, [.int 0, .int 0, .int 0, .ref y_q8, .ref y_q17, .int 0, .ref y_q26, .int 0, .ref y_q35, .int 0, .ref y_q43, .ref y_q51, .ref y_q59, .ref y_q67, .ref y_q75, .ref y_q83, .ref y_q92, .ref y_q100]))]) [9] rfl
  have hKc := hK.sub (tys' := []) [] rfl
  refine vp_callSi (W.runV (As := [.int s1, .int s2, .int s3]) (rest := [.int (-2)]) ⟨hx, hb, hml, hown, hts⟩ (ctX6_mapped_n l N dC dI  q8 y_q8 y_q17 y_q26 y_q35 y_q43 y_q51 y_q59 y_q67 y_q75 y_q83 y_q92 y_q100 0 0 0 0 0 0 s1 s2 s3 (-2) rfl (l1_in N s1)) (cwV 3 hts gL1_X6_mapped_n rfl rfl rfl (by decide +kernel) ⟨Nat.le_of_ble_eq_true rfl, Nat.le_of_ble_eq_true rfl⟩) ⟨fun a U g mk q => by obtain ⟨q0, qP, qK, qN⟩ := q; exact ⟨q0, qP, va_K.moved (u := U) (U := U.calling g mk a) (Vm.Alike.refl U.vm) qK, nw_same (u := U) (U := U.calling g mk a) rfl qN⟩, va_recv hKc hPc (ci := 5) (q0 := 0) rfl rfl, fun U hU hW => ⟨rfl, by rw [hU]; exact hPc, va_K.moved hW.alike hKc, nw_warm hW hN⟩⟩ rfl rfl hl.1 rfl (lv_room (Nat.le_of_ble_eq_true rfl)) dL_law_375 ⟨by decide +kernel, by decide +kernel⟩) (fun q9 eq9 => ?_)
  subst q9
  refine lv_icmp_eq (tgt := 1739) hx hb dL_law_378 (by decide) (fun c61 => ?_) (fun c61 => ?_)
  · exact law1_end hL C0 hAe (by decide +kernel) (by decide +kernel) hS ls (lv_sub hl [0, 3] rfl)
  · exact absurd (rfl : (-2) = ((-2) : Int32)) c61
set_option maxHeartbeats 4000000 in
set_option maxRecDepth 100000 in
theorem law1_c5 {p : Program} {l : Launch} {e : Env} {s : State} {m : MethodId} {below : List Frame} {meth : Method} {c : Code} {b L : Nat} {xs : Nat → Int32} (hL : L ≤ 7) (hL7 : L = 7) (C0 : lw_At p s m meth c b L xs) (N : Nat) (hN1 : 20000 ≤ N) (dC : Nat → ClassId) (dI : Nat → Nat → Nat) (q0 x_q7 x_q19 x_q8_23 x_q30 x_q10_38 x_q8_14_38 x_q17_14_38 x_q22_38 q8 y_q8 y_q17 y_q26 y_q35 y_q43 y_q51 y_q59 y_q67 y_q75 y_q83 y_q92 y_q100 : Nat) (x_k7 x_k8_23 x_k8_14_38 x_k17_14_38 x_k22_38 y_k8 y_k17 y_k26 y_k35 y_k43 y_k51 y_k59 y_k67 y_k75 y_k83 y_k92 y_k100 : ClassId) {A : Nat → Prop} (hAe : A = fun q => s.heap.size ≤ q) (H : Heap) (locs : List Loc) (ls : Array Slot) (hN : nw_all s) (hK : va_K (dC, dI) vwCl [(x_k7, .object "PointRings$Curve"), (x_k8_23, .int), (x_k8_14_38, .int), (x_k17_14_38, .int), (x_k22_38, .int), (y_k8, .int), (y_k17, .int), (y_k26, .int), (y_k35, .int), (y_k43, .int), (y_k51, .int), (y_k59, .int), (y_k67, .int), (y_k75, .int), (y_k83, .int), (y_k92, .boolean), (y_k100, .boolean)] s) (hP : va_P (dC, dI) vwCl [(q0, .inr (4, [.ref x_q7, .int 0, .ref x_q19, .ref x_q30])), (x_q7, .inl (x_k7, 24, .inr (.inr (.inr (.inr (fun _ => none)))))), (x_q19, .inr (1, [.ref x_q8_23, .int 0])), (x_q8_23, .inl (x_k8_23, 10007, .inl (fun _ => 0))), (x_q30, .inr (3, [.ref x_q19, .ref x_q10_38, .ref x_q22_38])), (x_q10_38, .inr (2, [.ref x_q8_14_38, .ref x_q17_14_38, .null, .int 1, .int 0, .int (-1)])), (x_q8_14_38, .inl (x_k8_14_38, 10007, .inl (fun _ => 0))), (x_q17_14_38, .inl (x_k17_14_38, 128, .inl (fun _ => 0))), (x_q22_38, .inl (x_k22_38, 4, .inl (fun _ => 0))), (q8, .inr (5, [.int 0, .int 0, .int 0, .ref y_q8, .ref y_q17, .int 0, .ref y_q26, .int 0, .ref y_q35, .int 0, .ref y_q43, .ref y_q51, .ref y_q59, .ref y_q67, .ref y_q75, .ref y_q83, .ref y_q92, .ref y_q100])), (y_q8, .inl (y_k8, 10008, .inl (fun _ => 0))), (y_q17, .inl (y_k17, 10008, .inl (fun _ => 0))), (y_q26, .inl (y_k26, 10300, .inl (fun _ => 0))), (y_q35, .inl (y_k35, 10008, .inl (fun _ => 0))), (y_q43, .inl (y_k43, 24, .inl (fun _ => 0))), (y_q51, .inl (y_k51, 24, .inl (fun _ => 0))), (y_q59, .inl (y_k59, 24, .inl (fun _ => 0))), (y_q67, .inl (y_k67, 24, .inl (fun _ => 0))), (y_q75, .inl (y_k75, 24, .inl (fun _ => 0))), (y_q83, .inl (y_k83, 24, .inl (fun _ => 0))), (y_q92, .inl (y_k92, 10300, .inl (fun _ => 0))), (y_q100, .inl (y_k100, 64, .inl (fun _ => 0)))] H) (hD : va_D A [(q0, .inr (4, [.ref x_q7, .int 0, .ref x_q19, .ref x_q30])), (x_q7, .inl (x_k7, 24, .inr (.inr (.inr (.inr (fun _ => none)))))), (x_q19, .inr (1, [.ref x_q8_23, .int 0])), (x_q8_23, .inl (x_k8_23, 10007, .inl (fun _ => 0))), (x_q30, .inr (3, [.ref x_q19, .ref x_q10_38, .ref x_q22_38])), (x_q10_38, .inr (2, [.ref x_q8_14_38, .ref x_q17_14_38, .null, .int 1, .int 0, .int (-1)])), (x_q8_14_38, .inl (x_k8_14_38, 10007, .inl (fun _ => 0))), (x_q17_14_38, .inl (x_k17_14_38, 128, .inl (fun _ => 0))), (x_q22_38, .inl (x_k22_38, 4, .inl (fun _ => 0))), (q8, .inr (5, [.int 0, .int 0, .int 0, .ref y_q8, .ref y_q17, .int 0, .ref y_q26, .int 0, .ref y_q35, .int 0, .ref y_q43, .ref y_q51, .ref y_q59, .ref y_q67, .ref y_q75, .ref y_q83, .ref y_q92, .ref y_q100])), (y_q8, .inl (y_k8, 10008, .inl (fun _ => 0))), (y_q17, .inl (y_k17, 10008, .inl (fun _ => 0))), (y_q26, .inl (y_k26, 10300, .inl (fun _ => 0))), (y_q35, .inl (y_k35, 10008, .inl (fun _ => 0))), (y_q43, .inl (y_k43, 24, .inl (fun _ => 0))), (y_q51, .inl (y_k51, 24, .inl (fun _ => 0))), (y_q59, .inl (y_k59, 24, .inl (fun _ => 0))), (y_q67, .inl (y_k67, 24, .inl (fun _ => 0))), (y_q75, .inl (y_k75, 24, .inl (fun _ => 0))), (y_q83, .inl (y_k83, 24, .inl (fun _ => 0))), (y_q92, .inl (y_k92, 10300, .inl (fun _ => 0))), (y_q100, .inl (y_k100, 64, .inl (fun _ => 0)))]) (hS : va_S A s.heap H locs) (hl : lv_has ls 4 [(0, .ref b), (1, .ref q0), (2, .ref q8), (3, .int 0)]) : W p l e room_1 s m #[Value.ref b] below meth c H locs 22 71035 (lw_Z below #[Value.ref b] s) (F0 m 383 ls []) := by
  obtain ⟨hx, hb, hr, hml, hown, hts, hX, hbl, hlocks, hgv⟩ := id C0
  have hbA : ¬ A b := by rw [hAe]; exact Nat.not_le.mpr hbl
  have hA0 : ∀ q : Nat, s.heap.size ≤ q → A q := fun q h => by rw [hAe]; exact h
  refine lv_aload_n hx hb dL_law_383 rfl (lv_at hl 1 rfl) ?_
  refine lv_aload_n hx hb dL_law_384 rfl (lv_at hl 0 rfl) ?_
  refine lv_iload_n hx hb dL_law_385 rfl (lv_at hl 3 rfl) ?_
  refine lv_iconst (v := 1) hx hb dL_law_386 (by decide) ?_
  refine lv_iadd hx hb dL_law_387 ?_
  refine va_sld hx hb hX hbl hbA hS (l1_vin hL7 (vp_in_iff.mpr (by decide +kernel))) dL_law_388 ?_
  refine lv_topi (fun s1 es1 => ?_)
  refine lv_aload_n hx hb dL_law_389 rfl (lv_at hl 0 rfl) ?_
  refine lv_iload_n hx hb dL_law_390 rfl (lv_at hl 3 rfl) ?_
  refine lv_iconst (v := 2) hx hb dL_law_391 (by decide) ?_
  refine lv_iadd hx hb dL_law_392 ?_
  refine va_sld hx hb hX hbl hbA hS (l1_vin hL7 (vp_in_iff.mpr (by decide +kernel))) dL_law_393 ?_
  refine lv_topi (fun s2 es2 => ?_)
  have hPc := hP.sub (ws' := [(q0, .inr (4, [.ref x_q7, .int 0, .ref x_q19, .ref x_q30])), (x_q7, .inl (x_k7, 24, .inr (.inr (.inr (.inr (fun _ => none))))))]) [0, 1] rfl
  have hKc := hK.sub (tys' := [(x_k7, .object "PointRings$Curve")]) [0] rfl
  refine vp_callSi (W.runV (As := [.int s1, .int s2]) (rest := []) ⟨hx, hb, hml, hown, hts⟩ (ctX5_root_n l N dC dI  q0 x_q7 x_q19 x_q30 x_k7 0 (fun _ => none) s1 s2 (-2) rfl (l1_at N s1)) (cwV 2 hts gL1_X5_root_n rfl rfl rfl (by decide +kernel) ⟨Nat.le_of_ble_eq_true rfl, Nat.le_of_ble_eq_true rfl⟩) ⟨fun a U g mk q => by obtain ⟨q0, qP, qK, qN⟩ := q; exact ⟨q0, qP, va_K.moved (u := U) (U := U.calling g mk a) (Vm.Alike.refl U.vm) qK, nw_same (u := U) (U := U.calling g mk a) rfl qN⟩, va_recv hKc hPc (ci := 4) (q0 := 0) rfl rfl, fun U hU hW => ⟨rfl, by rw [hU]; exact hPc, va_K.moved hW.alike hKc, nw_warm hW hN⟩⟩ rfl rfl hl.1 rfl (lv_room (Nat.le_of_ble_eq_true rfl)) dL_law_394 ⟨by decide +kernel, by decide +kernel⟩) (fun q9 eq9 => ?_)
  subst q9
  refine lv_aload_n hx hb dL_law_397 rfl (lv_at hl 2 rfl) ?_
  refine lv_aload_n hx hb dL_law_398 rfl (lv_at hl 0 rfl) ?_
  refine lv_iload_n hx hb dL_law_399 rfl (lv_at hl 3 rfl) ?_
  refine lv_iconst (v := 1) hx hb dL_law_400 (by decide) ?_
  refine lv_iadd hx hb dL_law_401 ?_
  refine va_sld hx hb hX hbl hbA hS (l1_vin hL7 (vp_in_iff.mpr (by decide +kernel))) dL_law_402 ?_
  rw [← es1]
  refine lv_aload_n hx hb dL_law_403 rfl (lv_at hl 0 rfl) ?_
  refine lv_iload_n hx hb dL_law_404 rfl (lv_at hl 3 rfl) ?_
  refine lv_iconst (v := 2) hx hb dL_law_405 (by decide) ?_
  refine lv_iadd hx hb dL_law_406 ?_
  refine va_sld hx hb hX hbl hbA hS (l1_vin hL7 (vp_in_iff.mpr (by decide +kernel))) dL_law_407 ?_
  rw [← es2]
  have hPc := hP.sub (ws' := [(q8, .inr (5, [.int 0, .int 0, .int 0, .ref y_q8, .ref y_q17, .int 0, .ref y_q26, .int 0, .ref y_q35, .int 0, .ref y_q43, .ref y_q51, .ref y_q59, .ref y_q67, .ref y_q75, .ref y_q83, .ref y_q92, .ref y_q100]))]) [9] rfl
  have hKc := hK.sub (tys' := []) [] rfl
  refine vp_callSi (W.runV (As := [.int s1, .int s2]) (rest := [.int (-2)]) ⟨hx, hb, hml, hown, hts⟩ (ctX6_root_n l N dC dI  q8 y_q8 y_q17 y_q26 y_q35 y_q43 y_q51 y_q59 y_q67 y_q75 y_q83 y_q92 y_q100 0 0 0 0 0 0 s1 s2 (-2) rfl (l1_in N s1)) (cwV 2 hts gL1_X6_root_n rfl rfl rfl (by decide +kernel) ⟨Nat.le_of_ble_eq_true rfl, Nat.le_of_ble_eq_true rfl⟩) ⟨fun a U g mk q => by obtain ⟨q0, qP, qK, qN⟩ := q; exact ⟨q0, qP, va_K.moved (u := U) (U := U.calling g mk a) (Vm.Alike.refl U.vm) qK, nw_same (u := U) (U := U.calling g mk a) rfl qN⟩, va_recv hKc hPc (ci := 5) (q0 := 0) rfl rfl, fun U hU hW => ⟨rfl, by rw [hU]; exact hPc, va_K.moved hW.alike hKc, nw_warm hW hN⟩⟩ rfl rfl hl.1 rfl (lv_room (Nat.le_of_ble_eq_true rfl)) dL_law_408 ⟨by decide +kernel, by decide +kernel⟩) (fun q9 eq9 => ?_)
  subst q9
  refine lv_icmp_eq (tgt := 1739) hx hb dL_law_411 (by decide) (fun c64 => ?_) (fun c64 => ?_)
  · exact law1_end hL C0 hAe (by decide +kernel) (by decide +kernel) hS ls (lv_sub hl [0, 3] rfl)
  · exact absurd (rfl : (-2) = ((-2) : Int32)) c64
set_option maxHeartbeats 4000000 in
set_option maxRecDepth 100000 in
theorem law1_c6 {p : Program} {l : Launch} {e : Env} {s : State} {m : MethodId} {below : List Frame} {meth : Method} {c : Code} {b L : Nat} {xs : Nat → Int32} (hL : L ≤ 7) (hL7 : L = 7) (C0 : lw_At p s m meth c b L xs) (N : Nat) (hN1 : 20000 ≤ N) (dC : Nat → ClassId) (dI : Nat → Nat → Nat) (q0 x_q7 x_q19 x_q8_23 x_q30 x_q10_38 x_q8_14_38 x_q17_14_38 x_q22_38 q8 y_q8 y_q17 y_q26 y_q35 y_q43 y_q51 y_q59 y_q67 y_q75 y_q83 y_q92 y_q100 : Nat) (x_k7 x_k8_23 x_k8_14_38 x_k17_14_38 x_k22_38 y_k8 y_k17 y_k26 y_k35 y_k43 y_k51 y_k59 y_k67 y_k75 y_k83 y_k92 y_k100 : ClassId) {A : Nat → Prop} (hAe : A = fun q => s.heap.size ≤ q) (H : Heap) (locs : List Loc) (ls : Array Slot) (hN : nw_all s) (hK : va_K (dC, dI) vwCl [(x_k7, .object "PointRings$Curve"), (x_k8_23, .int), (x_k8_14_38, .int), (x_k17_14_38, .int), (x_k22_38, .int), (y_k8, .int), (y_k17, .int), (y_k26, .int), (y_k35, .int), (y_k43, .int), (y_k51, .int), (y_k59, .int), (y_k67, .int), (y_k75, .int), (y_k83, .int), (y_k92, .boolean), (y_k100, .boolean)] s) (hP : va_P (dC, dI) vwCl [(q0, .inr (4, [.ref x_q7, .int 0, .ref x_q19, .ref x_q30])), (x_q7, .inl (x_k7, 24, .inr (.inr (.inr (.inr (fun _ => none)))))), (x_q19, .inr (1, [.ref x_q8_23, .int 0])), (x_q8_23, .inl (x_k8_23, 10007, .inl (fun _ => 0))), (x_q30, .inr (3, [.ref x_q19, .ref x_q10_38, .ref x_q22_38])), (x_q10_38, .inr (2, [.ref x_q8_14_38, .ref x_q17_14_38, .null, .int 1, .int 0, .int (-1)])), (x_q8_14_38, .inl (x_k8_14_38, 10007, .inl (fun _ => 0))), (x_q17_14_38, .inl (x_k17_14_38, 128, .inl (fun _ => 0))), (x_q22_38, .inl (x_k22_38, 4, .inl (fun _ => 0))), (q8, .inr (5, [.int 0, .int 0, .int 0, .ref y_q8, .ref y_q17, .int 0, .ref y_q26, .int 0, .ref y_q35, .int 0, .ref y_q43, .ref y_q51, .ref y_q59, .ref y_q67, .ref y_q75, .ref y_q83, .ref y_q92, .ref y_q100])), (y_q8, .inl (y_k8, 10008, .inl (fun _ => 0))), (y_q17, .inl (y_k17, 10008, .inl (fun _ => 0))), (y_q26, .inl (y_k26, 10300, .inl (fun _ => 0))), (y_q35, .inl (y_k35, 10008, .inl (fun _ => 0))), (y_q43, .inl (y_k43, 24, .inl (fun _ => 0))), (y_q51, .inl (y_k51, 24, .inl (fun _ => 0))), (y_q59, .inl (y_k59, 24, .inl (fun _ => 0))), (y_q67, .inl (y_k67, 24, .inl (fun _ => 0))), (y_q75, .inl (y_k75, 24, .inl (fun _ => 0))), (y_q83, .inl (y_k83, 24, .inl (fun _ => 0))), (y_q92, .inl (y_k92, 10300, .inl (fun _ => 0))), (y_q100, .inl (y_k100, 64, .inl (fun _ => 0)))] H) (hD : va_D A [(q0, .inr (4, [.ref x_q7, .int 0, .ref x_q19, .ref x_q30])), (x_q7, .inl (x_k7, 24, .inr (.inr (.inr (.inr (fun _ => none)))))), (x_q19, .inr (1, [.ref x_q8_23, .int 0])), (x_q8_23, .inl (x_k8_23, 10007, .inl (fun _ => 0))), (x_q30, .inr (3, [.ref x_q19, .ref x_q10_38, .ref x_q22_38])), (x_q10_38, .inr (2, [.ref x_q8_14_38, .ref x_q17_14_38, .null, .int 1, .int 0, .int (-1)])), (x_q8_14_38, .inl (x_k8_14_38, 10007, .inl (fun _ => 0))), (x_q17_14_38, .inl (x_k17_14_38, 128, .inl (fun _ => 0))), (x_q22_38, .inl (x_k22_38, 4, .inl (fun _ => 0))), (q8, .inr (5, [.int 0, .int 0, .int 0, .ref y_q8, .ref y_q17, .int 0, .ref y_q26, .int 0, .ref y_q35, .int 0, .ref y_q43, .ref y_q51, .ref y_q59, .ref y_q67, .ref y_q75, .ref y_q83, .ref y_q92, .ref y_q100])), (y_q8, .inl (y_k8, 10008, .inl (fun _ => 0))), (y_q17, .inl (y_k17, 10008, .inl (fun _ => 0))), (y_q26, .inl (y_k26, 10300, .inl (fun _ => 0))), (y_q35, .inl (y_k35, 10008, .inl (fun _ => 0))), (y_q43, .inl (y_k43, 24, .inl (fun _ => 0))), (y_q51, .inl (y_k51, 24, .inl (fun _ => 0))), (y_q59, .inl (y_k59, 24, .inl (fun _ => 0))), (y_q67, .inl (y_k67, 24, .inl (fun _ => 0))), (y_q75, .inl (y_k75, 24, .inl (fun _ => 0))), (y_q83, .inl (y_k83, 24, .inl (fun _ => 0))), (y_q92, .inl (y_k92, 10300, .inl (fun _ => 0))), (y_q100, .inl (y_k100, 64, .inl (fun _ => 0)))]) (hS : va_S A s.heap H locs) (hl : lv_has ls 4 [(0, .ref b), (1, .ref q0), (2, .ref q8), (3, .int 0)]) : W p l e room_1 s m #[Value.ref b] below meth c H locs 22 71035 (lw_Z below #[Value.ref b] s) (F0 m 416 ls []) := by
  obtain ⟨hx, hb, hr, hml, hown, hts, hX, hbl, hlocks, hgv⟩ := id C0
  have hbA : ¬ A b := by rw [hAe]; exact Nat.not_le.mpr hbl
  have hA0 : ∀ q : Nat, s.heap.size ≤ q → A q := fun q h => by rw [hAe]; exact h
  refine lv_aload_n hx hb dL_law_416 rfl (lv_at hl 1 rfl) ?_
  refine lv_aload_n hx hb dL_law_417 rfl (lv_at hl 0 rfl) ?_
  refine lv_iload_n hx hb dL_law_418 rfl (lv_at hl 3 rfl) ?_
  refine lv_iconst (v := 1) hx hb dL_law_419 (by decide) ?_
  refine lv_iadd hx hb dL_law_420 ?_
  refine va_sld hx hb hX hbl hbA hS (l1_vin hL7 (vp_in_iff.mpr (by decide +kernel))) dL_law_421 ?_
  refine lv_topi (fun s1 es1 => ?_)
  refine lv_aload_n hx hb dL_law_422 rfl (lv_at hl 0 rfl) ?_
  refine lv_iload_n hx hb dL_law_423 rfl (lv_at hl 3 rfl) ?_
  refine lv_iconst (v := 2) hx hb dL_law_424 (by decide) ?_
  refine lv_iadd hx hb dL_law_425 ?_
  refine va_sld hx hb hX hbl hbA hS (l1_vin hL7 (vp_in_iff.mpr (by decide +kernel))) dL_law_426 ?_
  refine lv_topi (fun s2 es2 => ?_)
  have hPc := hP.sub (ws' := [(q0, .inr (4, [.ref x_q7, .int 0, .ref x_q19, .ref x_q30])), (x_q7, .inl (x_k7, 24, .inr (.inr (.inr (.inr (fun _ => none))))))]) [0, 1] rfl
  have hKc := hK.sub (tys' := [(x_k7, .object "PointRings$Curve")]) [0] rfl
  refine vp_callSi (W.runV (As := [.int s1, .int s2]) (rest := []) ⟨hx, hb, hml, hown, hts⟩ (ctX5_inverse_n l N dC dI  q0 x_q7 x_q19 x_q30 x_k7 0 (fun _ => none) s1 s2 (-2) rfl (l1_at N s1)) (cwV 2 hts gL1_X5_inverse_n rfl rfl rfl (by decide +kernel) ⟨Nat.le_of_ble_eq_true rfl, Nat.le_of_ble_eq_true rfl⟩) ⟨fun a U g mk q => by obtain ⟨q0, qP, qK, qN⟩ := q; exact ⟨q0, qP, va_K.moved (u := U) (U := U.calling g mk a) (Vm.Alike.refl U.vm) qK, nw_same (u := U) (U := U.calling g mk a) rfl qN⟩, va_recv hKc hPc (ci := 4) (q0 := 0) rfl rfl, fun U hU hW => ⟨rfl, by rw [hU]; exact hPc, va_K.moved hW.alike hKc, nw_warm hW hN⟩⟩ rfl rfl hl.1 rfl (lv_room (Nat.le_of_ble_eq_true rfl)) dL_law_427 ⟨by decide +kernel, by decide +kernel⟩) (fun q9 eq9 => ?_)
  subst q9
  refine lv_aload_n hx hb dL_law_430 rfl (lv_at hl 2 rfl) ?_
  refine lv_aload_n hx hb dL_law_431 rfl (lv_at hl 0 rfl) ?_
  refine lv_iload_n hx hb dL_law_432 rfl (lv_at hl 3 rfl) ?_
  refine lv_iconst (v := 1) hx hb dL_law_433 (by decide) ?_
  refine lv_iadd hx hb dL_law_434 ?_
  refine va_sld hx hb hX hbl hbA hS (l1_vin hL7 (vp_in_iff.mpr (by decide +kernel))) dL_law_435 ?_
  rw [← es1]
  refine lv_aload_n hx hb dL_law_436 rfl (lv_at hl 0 rfl) ?_
  refine lv_iload_n hx hb dL_law_437 rfl (lv_at hl 3 rfl) ?_
  refine lv_iconst (v := 2) hx hb dL_law_438 (by decide) ?_
  refine lv_iadd hx hb dL_law_439 ?_
  refine va_sld hx hb hX hbl hbA hS (l1_vin hL7 (vp_in_iff.mpr (by decide +kernel))) dL_law_440 ?_
  rw [← es2]
  have hPc := hP.sub (ws' := [(q8, .inr (5, [.int 0, .int 0, .int 0, .ref y_q8, .ref y_q17, .int 0, .ref y_q26, .int 0, .ref y_q35, .int 0, .ref y_q43, .ref y_q51, .ref y_q59, .ref y_q67, .ref y_q75, .ref y_q83, .ref y_q92, .ref y_q100]))]) [9] rfl
  have hKc := hK.sub (tys' := []) [] rfl
  refine vp_callSi (W.runV (As := [.int s1, .int s2]) (rest := [.int (-2)]) ⟨hx, hb, hml, hown, hts⟩ (ctX6_inverse_n l N dC dI  q8 y_q8 y_q17 y_q26 y_q35 y_q43 y_q51 y_q59 y_q67 y_q75 y_q83 y_q92 y_q100 0 0 0 0 0 0 s1 s2 (-2) rfl (l1_in N s1)) (cwV 2 hts gL1_X6_inverse_n rfl rfl rfl (by decide +kernel) ⟨Nat.le_of_ble_eq_true rfl, Nat.le_of_ble_eq_true rfl⟩) ⟨fun a U g mk q => by obtain ⟨q0, qP, qK, qN⟩ := q; exact ⟨q0, qP, va_K.moved (u := U) (U := U.calling g mk a) (Vm.Alike.refl U.vm) qK, nw_same (u := U) (U := U.calling g mk a) rfl qN⟩, va_recv hKc hPc (ci := 5) (q0 := 0) rfl rfl, fun U hU hW => ⟨rfl, by rw [hU]; exact hPc, va_K.moved hW.alike hKc, nw_warm hW hN⟩⟩ rfl rfl hl.1 rfl (lv_room (Nat.le_of_ble_eq_true rfl)) dL_law_441 ⟨by decide +kernel, by decide +kernel⟩) (fun q9 eq9 => ?_)
  subst q9
  refine lv_icmp_eq (tgt := 1739) hx hb dL_law_444 (by decide) (fun c67 => ?_) (fun c67 => ?_)
  · exact law1_end hL C0 hAe (by decide +kernel) (by decide +kernel) hS ls (lv_sub hl [0, 3] rfl)
  · exact absurd (rfl : (-2) = ((-2) : Int32)) c67
set_option maxHeartbeats 4000000 in
set_option maxRecDepth 100000 in
theorem law1_c7 {p : Program} {l : Launch} {e : Env} {s : State} {m : MethodId} {below : List Frame} {meth : Method} {c : Code} {b L : Nat} {xs : Nat → Int32} (hL : L ≤ 7) (hL7 : L = 7) (C0 : lw_At p s m meth c b L xs) (N : Nat) (hN1 : 20000 ≤ N) (dC : Nat → ClassId) (dI : Nat → Nat → Nat) (q0 x_q7 x_q19 x_q8_23 x_q30 x_q10_38 x_q8_14_38 x_q17_14_38 x_q22_38 q8 y_q8 y_q17 y_q26 y_q35 y_q43 y_q51 y_q59 y_q67 y_q75 y_q83 y_q92 y_q100 : Nat) (x_k7 x_k8_23 x_k8_14_38 x_k17_14_38 x_k22_38 y_k8 y_k17 y_k26 y_k35 y_k43 y_k51 y_k59 y_k67 y_k75 y_k83 y_k92 y_k100 : ClassId) {A : Nat → Prop} (hAe : A = fun q => s.heap.size ≤ q) (H : Heap) (locs : List Loc) (ls : Array Slot) (hN : nw_all s) (hK : va_K (dC, dI) vwCl [(x_k7, .object "PointRings$Curve"), (x_k8_23, .int), (x_k8_14_38, .int), (x_k17_14_38, .int), (x_k22_38, .int), (y_k8, .int), (y_k17, .int), (y_k26, .int), (y_k35, .int), (y_k43, .int), (y_k51, .int), (y_k59, .int), (y_k67, .int), (y_k75, .int), (y_k83, .int), (y_k92, .boolean), (y_k100, .boolean)] s) (hP : va_P (dC, dI) vwCl [(q0, .inr (4, [.ref x_q7, .int 0, .ref x_q19, .ref x_q30])), (x_q7, .inl (x_k7, 24, .inr (.inr (.inr (.inr (fun _ => none)))))), (x_q19, .inr (1, [.ref x_q8_23, .int 0])), (x_q8_23, .inl (x_k8_23, 10007, .inl (fun _ => 0))), (x_q30, .inr (3, [.ref x_q19, .ref x_q10_38, .ref x_q22_38])), (x_q10_38, .inr (2, [.ref x_q8_14_38, .ref x_q17_14_38, .null, .int 1, .int 0, .int (-1)])), (x_q8_14_38, .inl (x_k8_14_38, 10007, .inl (fun _ => 0))), (x_q17_14_38, .inl (x_k17_14_38, 128, .inl (fun _ => 0))), (x_q22_38, .inl (x_k22_38, 4, .inl (fun _ => 0))), (q8, .inr (5, [.int 0, .int 0, .int 0, .ref y_q8, .ref y_q17, .int 0, .ref y_q26, .int 0, .ref y_q35, .int 0, .ref y_q43, .ref y_q51, .ref y_q59, .ref y_q67, .ref y_q75, .ref y_q83, .ref y_q92, .ref y_q100])), (y_q8, .inl (y_k8, 10008, .inl (fun _ => 0))), (y_q17, .inl (y_k17, 10008, .inl (fun _ => 0))), (y_q26, .inl (y_k26, 10300, .inl (fun _ => 0))), (y_q35, .inl (y_k35, 10008, .inl (fun _ => 0))), (y_q43, .inl (y_k43, 24, .inl (fun _ => 0))), (y_q51, .inl (y_k51, 24, .inl (fun _ => 0))), (y_q59, .inl (y_k59, 24, .inl (fun _ => 0))), (y_q67, .inl (y_k67, 24, .inl (fun _ => 0))), (y_q75, .inl (y_k75, 24, .inl (fun _ => 0))), (y_q83, .inl (y_k83, 24, .inl (fun _ => 0))), (y_q92, .inl (y_k92, 10300, .inl (fun _ => 0))), (y_q100, .inl (y_k100, 64, .inl (fun _ => 0)))] H) (hD : va_D A [(q0, .inr (4, [.ref x_q7, .int 0, .ref x_q19, .ref x_q30])), (x_q7, .inl (x_k7, 24, .inr (.inr (.inr (.inr (fun _ => none)))))), (x_q19, .inr (1, [.ref x_q8_23, .int 0])), (x_q8_23, .inl (x_k8_23, 10007, .inl (fun _ => 0))), (x_q30, .inr (3, [.ref x_q19, .ref x_q10_38, .ref x_q22_38])), (x_q10_38, .inr (2, [.ref x_q8_14_38, .ref x_q17_14_38, .null, .int 1, .int 0, .int (-1)])), (x_q8_14_38, .inl (x_k8_14_38, 10007, .inl (fun _ => 0))), (x_q17_14_38, .inl (x_k17_14_38, 128, .inl (fun _ => 0))), (x_q22_38, .inl (x_k22_38, 4, .inl (fun _ => 0))), (q8, .inr (5, [.int 0, .int 0, .int 0, .ref y_q8, .ref y_q17, .int 0, .ref y_q26, .int 0, .ref y_q35, .int 0, .ref y_q43, .ref y_q51, .ref y_q59, .ref y_q67, .ref y_q75, .ref y_q83, .ref y_q92, .ref y_q100])), (y_q8, .inl (y_k8, 10008, .inl (fun _ => 0))), (y_q17, .inl (y_k17, 10008, .inl (fun _ => 0))), (y_q26, .inl (y_k26, 10300, .inl (fun _ => 0))), (y_q35, .inl (y_k35, 10008, .inl (fun _ => 0))), (y_q43, .inl (y_k43, 24, .inl (fun _ => 0))), (y_q51, .inl (y_k51, 24, .inl (fun _ => 0))), (y_q59, .inl (y_k59, 24, .inl (fun _ => 0))), (y_q67, .inl (y_k67, 24, .inl (fun _ => 0))), (y_q75, .inl (y_k75, 24, .inl (fun _ => 0))), (y_q83, .inl (y_k83, 24, .inl (fun _ => 0))), (y_q92, .inl (y_k92, 10300, .inl (fun _ => 0))), (y_q100, .inl (y_k100, 64, .inl (fun _ => 0)))]) (hS : va_S A s.heap H locs) (hl : lv_has ls 4 [(0, .ref b), (1, .ref q0), (2, .ref q8), (3, .int 0)]) : W p l e room_1 s m #[Value.ref b] below meth c H locs 22 71035 (lw_Z below #[Value.ref b] s) (F0 m 449 ls []) := by
  obtain ⟨hx, hb, hr, hml, hown, hts, hX, hbl, hlocks, hgv⟩ := id C0
  have hbA : ¬ A b := by rw [hAe]; exact Nat.not_le.mpr hbl
  have hA0 : ∀ q : Nat, s.heap.size ≤ q → A q := fun q h => by rw [hAe]; exact h
  refine lv_aload_n hx hb dL_law_449 rfl (lv_at hl 1 rfl) ?_
  refine lv_aload_n hx hb dL_law_450 rfl (lv_at hl 0 rfl) ?_
  refine lv_iload_n hx hb dL_law_451 rfl (lv_at hl 3 rfl) ?_
  refine lv_iconst (v := 1) hx hb dL_law_452 (by decide) ?_
  refine lv_iadd hx hb dL_law_453 ?_
  refine va_sld hx hb hX hbl hbA hS (l1_vin hL7 (vp_in_iff.mpr (by decide +kernel))) dL_law_454 ?_
  refine lv_topi (fun s1 es1 => ?_)
  refine lv_aload_n hx hb dL_law_455 rfl (lv_at hl 0 rfl) ?_
  refine lv_iload_n hx hb dL_law_456 rfl (lv_at hl 3 rfl) ?_
  refine lv_iconst (v := 2) hx hb dL_law_457 (by decide) ?_
  refine lv_iadd hx hb dL_law_458 ?_
  refine va_sld hx hb hX hbl hbA hS (l1_vin hL7 (vp_in_iff.mpr (by decide +kernel))) dL_law_459 ?_
  refine lv_topi (fun s2 es2 => ?_)
  refine lv_aload_n hx hb dL_law_460 rfl (lv_at hl 0 rfl) ?_
  refine lv_iload_n hx hb dL_law_461 rfl (lv_at hl 3 rfl) ?_
  refine lv_iconst (v := 3) hx hb dL_law_462 (by decide) ?_
  refine lv_iadd hx hb dL_law_463 ?_
  refine va_sld hx hb hX hbl hbA hS (l1_vin hL7 (vp_in_iff.mpr (by decide +kernel))) dL_law_464 ?_
  refine lv_topi (fun s3 es3 => ?_)
  refine lv_i2l hx hb dL_law_465 rfl ?_
  refine lv_bipush (v := 32) hx hb dL_law_466 (by decide) ?_
  refine lv_lshl hx hb dL_law_468 rfl ?_
  refine lv_aload_n hx hb dL_law_469 rfl (lv_at hl 0 rfl) ?_
  refine lv_iload_n hx hb dL_law_470 rfl (lv_at hl 3 rfl) ?_
  refine lv_iconst (v := 4) hx hb dL_law_471 (by decide) ?_
  refine lv_iadd hx hb dL_law_472 ?_
  refine va_sld hx hb hX hbl hbA hS (l1_vin hL7 (vp_in_iff.mpr (by decide +kernel))) dL_law_473 ?_
  refine lv_topi (fun s4 es4 => ?_)
  refine lv_i2l hx hb dL_law_474 rfl ?_
  refine lv_ldc2 (v := 4294967295) hx hb hown (hts (.constantLong R_law 44 4294967295) (by decide +kernel)) dL_law_475 ?_
  refine lv_land hx hb dL_law_478 ?_
  refine lv_lor hx hb dL_law_479 ?_
  refine lv_topl (fun w479 ew479 => ?_)
  have hPc := hP.sub (ws' := [(q0, .inr (4, [.ref x_q7, .int 0, .ref x_q19, .ref x_q30])), (x_q7, .inl (x_k7, 24, .inr (.inr (.inr (.inr (fun _ => none))))))]) [0, 1] rfl
  have hKc := hK.sub (tys' := [(x_k7, .object "PointRings$Curve")]) [0] rfl
  refine vp_callSi (W.runV (As := [.int s1, .int s2, .long w479]) (rest := []) ⟨hx, hb, hml, hown, hts⟩ (ctX5_power_n l N dC dI  q0 x_q7 x_q19 x_q30 x_k7 0 (fun _ => none) s1 s2 w479 (-2) rfl (l1_at N s1)) (cwV 3 hts gL1_X5_power_n rfl rfl rfl (by decide +kernel) ⟨Nat.le_of_ble_eq_true rfl, Nat.le_of_ble_eq_true rfl⟩) ⟨fun a U g mk q => by obtain ⟨q0, qP, qK, qN⟩ := q; exact ⟨q0, qP, va_K.moved (u := U) (U := U.calling g mk a) (Vm.Alike.refl U.vm) qK, nw_same (u := U) (U := U.calling g mk a) rfl qN⟩, va_recv hKc hPc (ci := 4) (q0 := 0) rfl rfl, fun U hU hW => ⟨rfl, by rw [hU]; exact hPc, va_K.moved hW.alike hKc, nw_warm hW hN⟩⟩ rfl rfl hl.1 rfl (lv_room (Nat.le_of_ble_eq_true rfl)) dL_law_480 ⟨by decide +kernel, by decide +kernel⟩) (fun q9 eq9 => ?_)
  subst q9
  refine lv_aload_n hx hb dL_law_483 rfl (lv_at hl 2 rfl) ?_
  refine lv_aload_n hx hb dL_law_484 rfl (lv_at hl 0 rfl) ?_
  refine lv_iload_n hx hb dL_law_485 rfl (lv_at hl 3 rfl) ?_
  refine lv_iconst (v := 1) hx hb dL_law_486 (by decide) ?_
  refine lv_iadd hx hb dL_law_487 ?_
  refine va_sld hx hb hX hbl hbA hS (l1_vin hL7 (vp_in_iff.mpr (by decide +kernel))) dL_law_488 ?_
  rw [← es1]
  refine lv_aload_n hx hb dL_law_489 rfl (lv_at hl 0 rfl) ?_
  refine lv_iload_n hx hb dL_law_490 rfl (lv_at hl 3 rfl) ?_
  refine lv_iconst (v := 2) hx hb dL_law_491 (by decide) ?_
  refine lv_iadd hx hb dL_law_492 ?_
  refine va_sld hx hb hX hbl hbA hS (l1_vin hL7 (vp_in_iff.mpr (by decide +kernel))) dL_law_493 ?_
  rw [← es2]
  refine lv_aload_n hx hb dL_law_494 rfl (lv_at hl 0 rfl) ?_
  refine lv_iload_n hx hb dL_law_495 rfl (lv_at hl 3 rfl) ?_
  refine lv_iconst (v := 3) hx hb dL_law_496 (by decide) ?_
  refine lv_iadd hx hb dL_law_497 ?_
  refine va_sld hx hb hX hbl hbA hS (l1_vin hL7 (vp_in_iff.mpr (by decide +kernel))) dL_law_498 ?_
  rw [← es3]
  refine lv_i2l hx hb dL_law_499 rfl ?_
  refine lv_bipush (v := 32) hx hb dL_law_500 (by decide) ?_
  refine lv_lshl hx hb dL_law_502 rfl ?_
  refine lv_aload_n hx hb dL_law_503 rfl (lv_at hl 0 rfl) ?_
  refine lv_iload_n hx hb dL_law_504 rfl (lv_at hl 3 rfl) ?_
  refine lv_iconst (v := 4) hx hb dL_law_505 (by decide) ?_
  refine lv_iadd hx hb dL_law_506 ?_
  refine va_sld hx hb hX hbl hbA hS (l1_vin hL7 (vp_in_iff.mpr (by decide +kernel))) dL_law_507 ?_
  rw [← es4]
  refine lv_i2l hx hb dL_law_508 rfl ?_
  refine lv_ldc2 (v := 4294967295) hx hb hown (hts (.constantLong R_law 44 4294967295) (by decide +kernel)) dL_law_509 ?_
  refine lv_land hx hb dL_law_512 ?_
  refine lv_lor hx hb dL_law_513 ?_
  refine lv_topl (fun w513 ew513 => ?_)
  have hPc := hP.sub (ws' := [(q8, .inr (5, [.int 0, .int 0, .int 0, .ref y_q8, .ref y_q17, .int 0, .ref y_q26, .int 0, .ref y_q35, .int 0, .ref y_q43, .ref y_q51, .ref y_q59, .ref y_q67, .ref y_q75, .ref y_q83, .ref y_q92, .ref y_q100]))]) [9] rfl
  have hKc := hK.sub (tys' := []) [] rfl
  refine vp_callSi (W.runV (As := [.int s1, .int s2, .long w513]) (rest := [.int (-2)]) ⟨hx, hb, hml, hown, hts⟩ (ctX6_power_n l N dC dI  q8 y_q8 y_q17 y_q26 y_q35 y_q43 y_q51 y_q59 y_q67 y_q75 y_q83 y_q92 y_q100 0 0 0 0 0 0 s1 s2 w513 (-2) rfl (l1_in N s1)) (cwV 3 hts gL1_X6_power_n rfl rfl rfl (by decide +kernel) ⟨Nat.le_of_ble_eq_true rfl, Nat.le_of_ble_eq_true rfl⟩) ⟨fun a U g mk q => by obtain ⟨q0, qP, qK, qN⟩ := q; exact ⟨q0, qP, va_K.moved (u := U) (U := U.calling g mk a) (Vm.Alike.refl U.vm) qK, nw_same (u := U) (U := U.calling g mk a) rfl qN⟩, va_recv hKc hPc (ci := 5) (q0 := 0) rfl rfl, fun U hU hW => ⟨rfl, by rw [hU]; exact hPc, va_K.moved hW.alike hKc, nw_warm hW hN⟩⟩ rfl rfl hl.1 rfl (lv_room (Nat.le_of_ble_eq_true rfl)) dL_law_514 ⟨by decide +kernel, by decide +kernel⟩) (fun q9 eq9 => ?_)
  subst q9
  refine lv_icmp_eq (tgt := 1739) hx hb dL_law_517 (by decide) (fun c70 => ?_) (fun c70 => ?_)
  · exact law1_end hL C0 hAe (by decide +kernel) (by decide +kernel) hS ls (lv_sub hl [0, 3] rfl)
  · exact absurd (rfl : (-2) = ((-2) : Int32)) c70
set_option maxHeartbeats 4000000 in
set_option maxRecDepth 100000 in
theorem law1_c8 {p : Program} {l : Launch} {e : Env} {s : State} {m : MethodId} {below : List Frame} {meth : Method} {c : Code} {b L : Nat} {xs : Nat → Int32} (hL : L ≤ 7) (hL7 : L = 7) (C0 : lw_At p s m meth c b L xs) (N : Nat) (hN1 : 20000 ≤ N) (dC : Nat → ClassId) (dI : Nat → Nat → Nat) (q0 x_q7 x_q19 x_q8_23 x_q30 x_q10_38 x_q8_14_38 x_q17_14_38 x_q22_38 q8 y_q8 y_q17 y_q26 y_q35 y_q43 y_q51 y_q59 y_q67 y_q75 y_q83 y_q92 y_q100 : Nat) (x_k7 x_k8_23 x_k8_14_38 x_k17_14_38 x_k22_38 y_k8 y_k17 y_k26 y_k35 y_k43 y_k51 y_k59 y_k67 y_k75 y_k83 y_k92 y_k100 : ClassId) {A : Nat → Prop} (hAe : A = fun q => s.heap.size ≤ q) (H : Heap) (locs : List Loc) (ls : Array Slot) (hN : nw_all s) (hK : va_K (dC, dI) vwCl [(x_k7, .object "PointRings$Curve"), (x_k8_23, .int), (x_k8_14_38, .int), (x_k17_14_38, .int), (x_k22_38, .int), (y_k8, .int), (y_k17, .int), (y_k26, .int), (y_k35, .int), (y_k43, .int), (y_k51, .int), (y_k59, .int), (y_k67, .int), (y_k75, .int), (y_k83, .int), (y_k92, .boolean), (y_k100, .boolean)] s) (hP : va_P (dC, dI) vwCl [(q0, .inr (4, [.ref x_q7, .int 0, .ref x_q19, .ref x_q30])), (x_q7, .inl (x_k7, 24, .inr (.inr (.inr (.inr (fun _ => none)))))), (x_q19, .inr (1, [.ref x_q8_23, .int 0])), (x_q8_23, .inl (x_k8_23, 10007, .inl (fun _ => 0))), (x_q30, .inr (3, [.ref x_q19, .ref x_q10_38, .ref x_q22_38])), (x_q10_38, .inr (2, [.ref x_q8_14_38, .ref x_q17_14_38, .null, .int 1, .int 0, .int (-1)])), (x_q8_14_38, .inl (x_k8_14_38, 10007, .inl (fun _ => 0))), (x_q17_14_38, .inl (x_k17_14_38, 128, .inl (fun _ => 0))), (x_q22_38, .inl (x_k22_38, 4, .inl (fun _ => 0))), (q8, .inr (5, [.int 0, .int 0, .int 0, .ref y_q8, .ref y_q17, .int 0, .ref y_q26, .int 0, .ref y_q35, .int 0, .ref y_q43, .ref y_q51, .ref y_q59, .ref y_q67, .ref y_q75, .ref y_q83, .ref y_q92, .ref y_q100])), (y_q8, .inl (y_k8, 10008, .inl (fun _ => 0))), (y_q17, .inl (y_k17, 10008, .inl (fun _ => 0))), (y_q26, .inl (y_k26, 10300, .inl (fun _ => 0))), (y_q35, .inl (y_k35, 10008, .inl (fun _ => 0))), (y_q43, .inl (y_k43, 24, .inl (fun _ => 0))), (y_q51, .inl (y_k51, 24, .inl (fun _ => 0))), (y_q59, .inl (y_k59, 24, .inl (fun _ => 0))), (y_q67, .inl (y_k67, 24, .inl (fun _ => 0))), (y_q75, .inl (y_k75, 24, .inl (fun _ => 0))), (y_q83, .inl (y_k83, 24, .inl (fun _ => 0))), (y_q92, .inl (y_k92, 10300, .inl (fun _ => 0))), (y_q100, .inl (y_k100, 64, .inl (fun _ => 0)))] H) (hD : va_D A [(q0, .inr (4, [.ref x_q7, .int 0, .ref x_q19, .ref x_q30])), (x_q7, .inl (x_k7, 24, .inr (.inr (.inr (.inr (fun _ => none)))))), (x_q19, .inr (1, [.ref x_q8_23, .int 0])), (x_q8_23, .inl (x_k8_23, 10007, .inl (fun _ => 0))), (x_q30, .inr (3, [.ref x_q19, .ref x_q10_38, .ref x_q22_38])), (x_q10_38, .inr (2, [.ref x_q8_14_38, .ref x_q17_14_38, .null, .int 1, .int 0, .int (-1)])), (x_q8_14_38, .inl (x_k8_14_38, 10007, .inl (fun _ => 0))), (x_q17_14_38, .inl (x_k17_14_38, 128, .inl (fun _ => 0))), (x_q22_38, .inl (x_k22_38, 4, .inl (fun _ => 0))), (q8, .inr (5, [.int 0, .int 0, .int 0, .ref y_q8, .ref y_q17, .int 0, .ref y_q26, .int 0, .ref y_q35, .int 0, .ref y_q43, .ref y_q51, .ref y_q59, .ref y_q67, .ref y_q75, .ref y_q83, .ref y_q92, .ref y_q100])), (y_q8, .inl (y_k8, 10008, .inl (fun _ => 0))), (y_q17, .inl (y_k17, 10008, .inl (fun _ => 0))), (y_q26, .inl (y_k26, 10300, .inl (fun _ => 0))), (y_q35, .inl (y_k35, 10008, .inl (fun _ => 0))), (y_q43, .inl (y_k43, 24, .inl (fun _ => 0))), (y_q51, .inl (y_k51, 24, .inl (fun _ => 0))), (y_q59, .inl (y_k59, 24, .inl (fun _ => 0))), (y_q67, .inl (y_k67, 24, .inl (fun _ => 0))), (y_q75, .inl (y_k75, 24, .inl (fun _ => 0))), (y_q83, .inl (y_k83, 24, .inl (fun _ => 0))), (y_q92, .inl (y_k92, 10300, .inl (fun _ => 0))), (y_q100, .inl (y_k100, 64, .inl (fun _ => 0)))]) (hS : va_S A s.heap H locs) (hl : lv_has ls 4 [(0, .ref b), (1, .ref q0), (2, .ref q8), (3, .int 0)]) : W p l e room_1 s m #[Value.ref b] below meth c H locs 22 71035 (lw_Z below #[Value.ref b] s) (F0 m 522 ls []) := by
  obtain ⟨hx, hb, hr, hml, hown, hts, hX, hbl, hlocks, hgv⟩ := id C0
  have hbA : ¬ A b := by rw [hAe]; exact Nat.not_le.mpr hbl
  have hA0 : ∀ q : Nat, s.heap.size ≤ q → A q := fun q h => by rw [hAe]; exact h
  refine lv_aload_n hx hb dL_law_522 rfl (lv_at hl 1 rfl) ?_
  refine lv_aload_n hx hb dL_law_523 rfl (lv_at hl 0 rfl) ?_
  refine lv_iload_n hx hb dL_law_524 rfl (lv_at hl 3 rfl) ?_
  refine lv_iconst (v := 1) hx hb dL_law_525 (by decide) ?_
  refine lv_iadd hx hb dL_law_526 ?_
  refine va_sld hx hb hX hbl hbA hS (l1_vin hL7 (vp_in_iff.mpr (by decide +kernel))) dL_law_527 ?_
  refine lv_topi (fun s1 es1 => ?_)
  have hPc := hP.sub (ws' := [(q0, .inr (4, [.ref x_q7, .int 0, .ref x_q19, .ref x_q30])), (x_q7, .inl (x_k7, 24, .inr (.inr (.inr (.inr (fun _ => none))))))]) [0, 1] rfl
  have hKc := hK.sub (tys' := [(x_k7, .object "PointRings$Curve")]) [0] rfl
  refine vp_callSi (W.runV (As := [.int s1]) (rest := []) ⟨hx, hb, hml, hown, hts⟩ (ctX5_generator_n l N dC dI  q0 x_q7 x_q19 x_q30 x_k7 0 (fun _ => none) s1 (-2) rfl (l1_at N s1)) (cwV 1 hts gL1_X5_generator_n rfl rfl rfl (by decide +kernel) ⟨Nat.le_of_ble_eq_true rfl, Nat.le_of_ble_eq_true rfl⟩) ⟨fun a U g mk q => by obtain ⟨q0, qP, qK, qN⟩ := q; exact ⟨q0, qP, va_K.moved (u := U) (U := U.calling g mk a) (Vm.Alike.refl U.vm) qK, nw_same (u := U) (U := U.calling g mk a) rfl qN⟩, va_recv hKc hPc (ci := 4) (q0 := 0) rfl rfl, fun U hU hW => ⟨rfl, by rw [hU]; exact hPc, va_K.moved hW.alike hKc, nw_warm hW hN⟩⟩ rfl rfl hl.1 rfl (lv_room (Nat.le_of_ble_eq_true rfl)) dL_law_528 ⟨by decide +kernel, by decide +kernel⟩) (fun q9 eq9 => ?_)
  subst q9
  refine lv_aload_n hx hb dL_law_531 rfl (lv_at hl 2 rfl) ?_
  refine lv_aload_n hx hb dL_law_532 rfl (lv_at hl 0 rfl) ?_
  refine lv_iload_n hx hb dL_law_533 rfl (lv_at hl 3 rfl) ?_
  refine lv_iconst (v := 1) hx hb dL_law_534 (by decide) ?_
  refine lv_iadd hx hb dL_law_535 ?_
  refine va_sld hx hb hX hbl hbA hS (l1_vin hL7 (vp_in_iff.mpr (by decide +kernel))) dL_law_536 ?_
  rw [← es1]
  have hPc := hP.sub (ws' := [(q8, .inr (5, [.int 0, .int 0, .int 0, .ref y_q8, .ref y_q17, .int 0, .ref y_q26, .int 0, .ref y_q35, .int 0, .ref y_q43, .ref y_q51, .ref y_q59, .ref y_q67, .ref y_q75, .ref y_q83, .ref y_q92, .ref y_q100]))]) [9] rfl
  have hKc := hK.sub (tys' := []) [] rfl
  refine vp_callSi (W.runV (As := [.int s1]) (rest := [.int (-2)]) ⟨hx, hb, hml, hown, hts⟩ (ctX6_generator_n l N dC dI  q8 y_q8 y_q17 y_q26 y_q35 y_q43 y_q51 y_q59 y_q67 y_q75 y_q83 y_q92 y_q100 0 0 0 0 0 0 s1 (-2) rfl (l1_in N s1)) (cwV 1 hts gL1_X6_generator_n rfl rfl rfl (by decide +kernel) ⟨Nat.le_of_ble_eq_true rfl, Nat.le_of_ble_eq_true rfl⟩) ⟨fun a U g mk q => by obtain ⟨q0, qP, qK, qN⟩ := q; exact ⟨q0, qP, va_K.moved (u := U) (U := U.calling g mk a) (Vm.Alike.refl U.vm) qK, nw_same (u := U) (U := U.calling g mk a) rfl qN⟩, va_recv hKc hPc (ci := 5) (q0 := 0) rfl rfl, fun U hU hW => ⟨rfl, by rw [hU]; exact hPc, va_K.moved hW.alike hKc, nw_warm hW hN⟩⟩ rfl rfl hl.1 rfl (lv_room (Nat.le_of_ble_eq_true rfl)) dL_law_537 ⟨by decide +kernel, by decide +kernel⟩) (fun q9 eq9 => ?_)
  subst q9
  refine lv_icmp_eq (tgt := 1739) hx hb dL_law_540 (by decide) (fun c73 => ?_) (fun c73 => ?_)
  · exact law1_end hL C0 hAe (by decide +kernel) (by decide +kernel) hS ls (lv_sub hl [0, 3] rfl)
  · exact absurd (rfl : (-2) = ((-2) : Int32)) c73
set_option maxHeartbeats 4000000 in
set_option maxRecDepth 100000 in
theorem law1_c9 {p : Program} {l : Launch} {e : Env} {s : State} {m : MethodId} {below : List Frame} {meth : Method} {c : Code} {b L : Nat} {xs : Nat → Int32} (hL : L ≤ 7) (hL7 : L = 7) (C0 : lw_At p s m meth c b L xs) (N : Nat) (hN1 : 20000 ≤ N) (dC : Nat → ClassId) (dI : Nat → Nat → Nat) (q0 x_q7 x_q19 x_q8_23 x_q30 x_q10_38 x_q8_14_38 x_q17_14_38 x_q22_38 q8 y_q8 y_q17 y_q26 y_q35 y_q43 y_q51 y_q59 y_q67 y_q75 y_q83 y_q92 y_q100 : Nat) (x_k7 x_k8_23 x_k8_14_38 x_k17_14_38 x_k22_38 y_k8 y_k17 y_k26 y_k35 y_k43 y_k51 y_k59 y_k67 y_k75 y_k83 y_k92 y_k100 : ClassId) {A : Nat → Prop} (hAe : A = fun q => s.heap.size ≤ q) (H : Heap) (locs : List Loc) (ls : Array Slot) (hN : nw_all s) (hK : va_K (dC, dI) vwCl [(x_k7, .object "PointRings$Curve"), (x_k8_23, .int), (x_k8_14_38, .int), (x_k17_14_38, .int), (x_k22_38, .int), (y_k8, .int), (y_k17, .int), (y_k26, .int), (y_k35, .int), (y_k43, .int), (y_k51, .int), (y_k59, .int), (y_k67, .int), (y_k75, .int), (y_k83, .int), (y_k92, .boolean), (y_k100, .boolean)] s) (hP : va_P (dC, dI) vwCl [(q0, .inr (4, [.ref x_q7, .int 0, .ref x_q19, .ref x_q30])), (x_q7, .inl (x_k7, 24, .inr (.inr (.inr (.inr (fun _ => none)))))), (x_q19, .inr (1, [.ref x_q8_23, .int 0])), (x_q8_23, .inl (x_k8_23, 10007, .inl (fun _ => 0))), (x_q30, .inr (3, [.ref x_q19, .ref x_q10_38, .ref x_q22_38])), (x_q10_38, .inr (2, [.ref x_q8_14_38, .ref x_q17_14_38, .null, .int 1, .int 0, .int (-1)])), (x_q8_14_38, .inl (x_k8_14_38, 10007, .inl (fun _ => 0))), (x_q17_14_38, .inl (x_k17_14_38, 128, .inl (fun _ => 0))), (x_q22_38, .inl (x_k22_38, 4, .inl (fun _ => 0))), (q8, .inr (5, [.int 0, .int 0, .int 0, .ref y_q8, .ref y_q17, .int 0, .ref y_q26, .int 0, .ref y_q35, .int 0, .ref y_q43, .ref y_q51, .ref y_q59, .ref y_q67, .ref y_q75, .ref y_q83, .ref y_q92, .ref y_q100])), (y_q8, .inl (y_k8, 10008, .inl (fun _ => 0))), (y_q17, .inl (y_k17, 10008, .inl (fun _ => 0))), (y_q26, .inl (y_k26, 10300, .inl (fun _ => 0))), (y_q35, .inl (y_k35, 10008, .inl (fun _ => 0))), (y_q43, .inl (y_k43, 24, .inl (fun _ => 0))), (y_q51, .inl (y_k51, 24, .inl (fun _ => 0))), (y_q59, .inl (y_k59, 24, .inl (fun _ => 0))), (y_q67, .inl (y_k67, 24, .inl (fun _ => 0))), (y_q75, .inl (y_k75, 24, .inl (fun _ => 0))), (y_q83, .inl (y_k83, 24, .inl (fun _ => 0))), (y_q92, .inl (y_k92, 10300, .inl (fun _ => 0))), (y_q100, .inl (y_k100, 64, .inl (fun _ => 0)))] H) (hD : va_D A [(q0, .inr (4, [.ref x_q7, .int 0, .ref x_q19, .ref x_q30])), (x_q7, .inl (x_k7, 24, .inr (.inr (.inr (.inr (fun _ => none)))))), (x_q19, .inr (1, [.ref x_q8_23, .int 0])), (x_q8_23, .inl (x_k8_23, 10007, .inl (fun _ => 0))), (x_q30, .inr (3, [.ref x_q19, .ref x_q10_38, .ref x_q22_38])), (x_q10_38, .inr (2, [.ref x_q8_14_38, .ref x_q17_14_38, .null, .int 1, .int 0, .int (-1)])), (x_q8_14_38, .inl (x_k8_14_38, 10007, .inl (fun _ => 0))), (x_q17_14_38, .inl (x_k17_14_38, 128, .inl (fun _ => 0))), (x_q22_38, .inl (x_k22_38, 4, .inl (fun _ => 0))), (q8, .inr (5, [.int 0, .int 0, .int 0, .ref y_q8, .ref y_q17, .int 0, .ref y_q26, .int 0, .ref y_q35, .int 0, .ref y_q43, .ref y_q51, .ref y_q59, .ref y_q67, .ref y_q75, .ref y_q83, .ref y_q92, .ref y_q100])), (y_q8, .inl (y_k8, 10008, .inl (fun _ => 0))), (y_q17, .inl (y_k17, 10008, .inl (fun _ => 0))), (y_q26, .inl (y_k26, 10300, .inl (fun _ => 0))), (y_q35, .inl (y_k35, 10008, .inl (fun _ => 0))), (y_q43, .inl (y_k43, 24, .inl (fun _ => 0))), (y_q51, .inl (y_k51, 24, .inl (fun _ => 0))), (y_q59, .inl (y_k59, 24, .inl (fun _ => 0))), (y_q67, .inl (y_k67, 24, .inl (fun _ => 0))), (y_q75, .inl (y_k75, 24, .inl (fun _ => 0))), (y_q83, .inl (y_k83, 24, .inl (fun _ => 0))), (y_q92, .inl (y_k92, 10300, .inl (fun _ => 0))), (y_q100, .inl (y_k100, 64, .inl (fun _ => 0)))]) (hS : va_S A s.heap H locs) (hl : lv_has ls 4 [(0, .ref b), (1, .ref q0), (2, .ref q8), (3, .int 0)]) : W p l e room_1 s m #[Value.ref b] below meth c H locs 22 71035 (lw_Z below #[Value.ref b] s) (F0 m 545 ls []) := by
  obtain ⟨hx, hb, hr, hml, hown, hts, hX, hbl, hlocks, hgv⟩ := id C0
  have hbA : ¬ A b := by rw [hAe]; exact Nat.not_le.mpr hbl
  have hA0 : ∀ q : Nat, s.heap.size ≤ q → A q := fun q h => by rw [hAe]; exact h
  refine lv_aload_n hx hb dL_law_545 rfl (lv_at hl 1 rfl) ?_
  refine lv_aload_n hx hb dL_law_546 rfl (lv_at hl 0 rfl) ?_
  refine lv_iload_n hx hb dL_law_547 rfl (lv_at hl 3 rfl) ?_
  refine lv_iconst (v := 1) hx hb dL_law_548 (by decide) ?_
  refine lv_iadd hx hb dL_law_549 ?_
  refine va_sld hx hb hX hbl hbA hS (l1_vin hL7 (vp_in_iff.mpr (by decide +kernel))) dL_law_550 ?_
  refine lv_topi (fun s1 es1 => ?_)
  refine lv_aload_n hx hb dL_law_551 rfl (lv_at hl 0 rfl) ?_
  refine lv_iload_n hx hb dL_law_552 rfl (lv_at hl 3 rfl) ?_
  refine lv_iconst (v := 2) hx hb dL_law_553 (by decide) ?_
  refine lv_iadd hx hb dL_law_554 ?_
  refine va_sld hx hb hX hbl hbA hS (l1_vin hL7 (vp_in_iff.mpr (by decide +kernel))) dL_law_555 ?_
  refine lv_topi (fun s2 es2 => ?_)
  refine lv_aload_n hx hb dL_law_556 rfl (lv_at hl 0 rfl) ?_
  refine lv_iload_n hx hb dL_law_557 rfl (lv_at hl 3 rfl) ?_
  refine lv_iconst (v := 3) hx hb dL_law_558 (by decide) ?_
  refine lv_iadd hx hb dL_law_559 ?_
  refine va_sld hx hb hX hbl hbA hS (l1_vin hL7 (vp_in_iff.mpr (by decide +kernel))) dL_law_560 ?_
  refine lv_topi (fun s3 es3 => ?_)
  have hPc := hP.sub (ws' := [(q0, .inr (4, [.ref x_q7, .int 0, .ref x_q19, .ref x_q30])), (x_q7, .inl (x_k7, 24, .inr (.inr (.inr (.inr (fun _ => none))))))]) [0, 1] rfl
  have hKc := hK.sub (tys' := [(x_k7, .object "PointRings$Curve")]) [0] rfl
  refine vp_callSi (W.runV (As := [.int s1, .int s2, .int s3]) (rest := []) ⟨hx, hb, hml, hown, hts⟩ (ctX5_point_n l N dC dI  q0 x_q7 x_q19 x_q30 x_k7 0 (fun _ => none) s1 s2 s3 (-2) rfl (l1_at N s1)) (cwV 3 hts gL1_X5_point_n rfl rfl rfl (by decide +kernel) ⟨Nat.le_of_ble_eq_true rfl, Nat.le_of_ble_eq_true rfl⟩) ⟨fun a U g mk q => by obtain ⟨q0, qP, qK, qN⟩ := q; exact ⟨q0, qP, va_K.moved (u := U) (U := U.calling g mk a) (Vm.Alike.refl U.vm) qK, nw_same (u := U) (U := U.calling g mk a) rfl qN⟩, va_recv hKc hPc (ci := 4) (q0 := 0) rfl rfl, fun U hU hW => ⟨rfl, by rw [hU]; exact hPc, va_K.moved hW.alike hKc, nw_warm hW hN⟩⟩ rfl rfl hl.1 rfl (lv_room (Nat.le_of_ble_eq_true rfl)) dL_law_561 ⟨by decide +kernel, by decide +kernel⟩) (fun q9 eq9 => ?_)
  subst q9
  refine lv_aload_n hx hb dL_law_564 rfl (lv_at hl 2 rfl) ?_
  refine lv_aload_n hx hb dL_law_565 rfl (lv_at hl 0 rfl) ?_
  refine lv_iload_n hx hb dL_law_566 rfl (lv_at hl 3 rfl) ?_
  refine lv_iconst (v := 1) hx hb dL_law_567 (by decide) ?_
  refine lv_iadd hx hb dL_law_568 ?_
  refine va_sld hx hb hX hbl hbA hS (l1_vin hL7 (vp_in_iff.mpr (by decide +kernel))) dL_law_569 ?_
  rw [← es1]
  refine lv_aload_n hx hb dL_law_570 rfl (lv_at hl 0 rfl) ?_
  refine lv_iload_n hx hb dL_law_571 rfl (lv_at hl 3 rfl) ?_
  refine lv_iconst (v := 2) hx hb dL_law_572 (by decide) ?_
  refine lv_iadd hx hb dL_law_573 ?_
  refine va_sld hx hb hX hbl hbA hS (l1_vin hL7 (vp_in_iff.mpr (by decide +kernel))) dL_law_574 ?_
  rw [← es2]
  refine lv_aload_n hx hb dL_law_575 rfl (lv_at hl 0 rfl) ?_
  refine lv_iload_n hx hb dL_law_576 rfl (lv_at hl 3 rfl) ?_
  refine lv_iconst (v := 3) hx hb dL_law_577 (by decide) ?_
  refine lv_iadd hx hb dL_law_578 ?_
  refine va_sld hx hb hX hbl hbA hS (l1_vin hL7 (vp_in_iff.mpr (by decide +kernel))) dL_law_579 ?_
  rw [← es3]
  have hPc := hP.sub (ws' := [(q8, .inr (5, [.int 0, .int 0, .int 0, .ref y_q8, .ref y_q17, .int 0, .ref y_q26, .int 0, .ref y_q35, .int 0, .ref y_q43, .ref y_q51, .ref y_q59, .ref y_q67, .ref y_q75, .ref y_q83, .ref y_q92, .ref y_q100]))]) [9] rfl
  have hKc := hK.sub (tys' := []) [] rfl
  refine vp_callSi (W.runV (As := [.int s1, .int s2, .int s3]) (rest := [.int (-2)]) ⟨hx, hb, hml, hown, hts⟩ (ctX6_point_n l N dC dI  q8 y_q8 y_q17 y_q26 y_q35 y_q43 y_q51 y_q59 y_q67 y_q75 y_q83 y_q92 y_q100 0 0 0 0 0 0 s1 s2 s3 (-2) rfl (l1_in N s1)) (cwV 3 hts gL1_X6_point_n rfl rfl rfl (by decide +kernel) ⟨Nat.le_of_ble_eq_true rfl, Nat.le_of_ble_eq_true rfl⟩) ⟨fun a U g mk q => by obtain ⟨q0, qP, qK, qN⟩ := q; exact ⟨q0, qP, va_K.moved (u := U) (U := U.calling g mk a) (Vm.Alike.refl U.vm) qK, nw_same (u := U) (U := U.calling g mk a) rfl qN⟩, va_recv hKc hPc (ci := 5) (q0 := 0) rfl rfl, fun U hU hW => ⟨rfl, by rw [hU]; exact hPc, va_K.moved hW.alike hKc, nw_warm hW hN⟩⟩ rfl rfl hl.1 rfl (lv_room (Nat.le_of_ble_eq_true rfl)) dL_law_580 ⟨by decide +kernel, by decide +kernel⟩) (fun q9 eq9 => ?_)
  subst q9
  refine lv_icmp_eq (tgt := 1739) hx hb dL_law_583 (by decide) (fun c76 => ?_) (fun c76 => ?_)
  · exact law1_end hL C0 hAe (by decide +kernel) (by decide +kernel) hS ls (lv_sub hl [0, 3] rfl)
  · exact absurd (rfl : (-2) = ((-2) : Int32)) c76
set_option maxHeartbeats 4000000 in
set_option maxRecDepth 100000 in
theorem law1_c10 {p : Program} {l : Launch} {e : Env} {s : State} {m : MethodId} {below : List Frame} {meth : Method} {c : Code} {b L : Nat} {xs : Nat → Int32} (hL : L ≤ 7) (hL7 : L = 7) (C0 : lw_At p s m meth c b L xs) (N : Nat) (hN1 : 20000 ≤ N) (dC : Nat → ClassId) (dI : Nat → Nat → Nat) (q0 x_q7 x_q19 x_q8_23 x_q30 x_q10_38 x_q8_14_38 x_q17_14_38 x_q22_38 q8 y_q8 y_q17 y_q26 y_q35 y_q43 y_q51 y_q59 y_q67 y_q75 y_q83 y_q92 y_q100 : Nat) (x_k7 x_k8_23 x_k8_14_38 x_k17_14_38 x_k22_38 y_k8 y_k17 y_k26 y_k35 y_k43 y_k51 y_k59 y_k67 y_k75 y_k83 y_k92 y_k100 : ClassId) {A : Nat → Prop} (hAe : A = fun q => s.heap.size ≤ q) (H : Heap) (locs : List Loc) (ls : Array Slot) (hN : nw_all s) (hK : va_K (dC, dI) vwCl [(x_k7, .object "PointRings$Curve"), (x_k8_23, .int), (x_k8_14_38, .int), (x_k17_14_38, .int), (x_k22_38, .int), (y_k8, .int), (y_k17, .int), (y_k26, .int), (y_k35, .int), (y_k43, .int), (y_k51, .int), (y_k59, .int), (y_k67, .int), (y_k75, .int), (y_k83, .int), (y_k92, .boolean), (y_k100, .boolean)] s) (hP : va_P (dC, dI) vwCl [(q0, .inr (4, [.ref x_q7, .int 0, .ref x_q19, .ref x_q30])), (x_q7, .inl (x_k7, 24, .inr (.inr (.inr (.inr (fun _ => none)))))), (x_q19, .inr (1, [.ref x_q8_23, .int 0])), (x_q8_23, .inl (x_k8_23, 10007, .inl (fun _ => 0))), (x_q30, .inr (3, [.ref x_q19, .ref x_q10_38, .ref x_q22_38])), (x_q10_38, .inr (2, [.ref x_q8_14_38, .ref x_q17_14_38, .null, .int 1, .int 0, .int (-1)])), (x_q8_14_38, .inl (x_k8_14_38, 10007, .inl (fun _ => 0))), (x_q17_14_38, .inl (x_k17_14_38, 128, .inl (fun _ => 0))), (x_q22_38, .inl (x_k22_38, 4, .inl (fun _ => 0))), (q8, .inr (5, [.int 0, .int 0, .int 0, .ref y_q8, .ref y_q17, .int 0, .ref y_q26, .int 0, .ref y_q35, .int 0, .ref y_q43, .ref y_q51, .ref y_q59, .ref y_q67, .ref y_q75, .ref y_q83, .ref y_q92, .ref y_q100])), (y_q8, .inl (y_k8, 10008, .inl (fun _ => 0))), (y_q17, .inl (y_k17, 10008, .inl (fun _ => 0))), (y_q26, .inl (y_k26, 10300, .inl (fun _ => 0))), (y_q35, .inl (y_k35, 10008, .inl (fun _ => 0))), (y_q43, .inl (y_k43, 24, .inl (fun _ => 0))), (y_q51, .inl (y_k51, 24, .inl (fun _ => 0))), (y_q59, .inl (y_k59, 24, .inl (fun _ => 0))), (y_q67, .inl (y_k67, 24, .inl (fun _ => 0))), (y_q75, .inl (y_k75, 24, .inl (fun _ => 0))), (y_q83, .inl (y_k83, 24, .inl (fun _ => 0))), (y_q92, .inl (y_k92, 10300, .inl (fun _ => 0))), (y_q100, .inl (y_k100, 64, .inl (fun _ => 0)))] H) (hD : va_D A [(q0, .inr (4, [.ref x_q7, .int 0, .ref x_q19, .ref x_q30])), (x_q7, .inl (x_k7, 24, .inr (.inr (.inr (.inr (fun _ => none)))))), (x_q19, .inr (1, [.ref x_q8_23, .int 0])), (x_q8_23, .inl (x_k8_23, 10007, .inl (fun _ => 0))), (x_q30, .inr (3, [.ref x_q19, .ref x_q10_38, .ref x_q22_38])), (x_q10_38, .inr (2, [.ref x_q8_14_38, .ref x_q17_14_38, .null, .int 1, .int 0, .int (-1)])), (x_q8_14_38, .inl (x_k8_14_38, 10007, .inl (fun _ => 0))), (x_q17_14_38, .inl (x_k17_14_38, 128, .inl (fun _ => 0))), (x_q22_38, .inl (x_k22_38, 4, .inl (fun _ => 0))), (q8, .inr (5, [.int 0, .int 0, .int 0, .ref y_q8, .ref y_q17, .int 0, .ref y_q26, .int 0, .ref y_q35, .int 0, .ref y_q43, .ref y_q51, .ref y_q59, .ref y_q67, .ref y_q75, .ref y_q83, .ref y_q92, .ref y_q100])), (y_q8, .inl (y_k8, 10008, .inl (fun _ => 0))), (y_q17, .inl (y_k17, 10008, .inl (fun _ => 0))), (y_q26, .inl (y_k26, 10300, .inl (fun _ => 0))), (y_q35, .inl (y_k35, 10008, .inl (fun _ => 0))), (y_q43, .inl (y_k43, 24, .inl (fun _ => 0))), (y_q51, .inl (y_k51, 24, .inl (fun _ => 0))), (y_q59, .inl (y_k59, 24, .inl (fun _ => 0))), (y_q67, .inl (y_k67, 24, .inl (fun _ => 0))), (y_q75, .inl (y_k75, 24, .inl (fun _ => 0))), (y_q83, .inl (y_k83, 24, .inl (fun _ => 0))), (y_q92, .inl (y_k92, 10300, .inl (fun _ => 0))), (y_q100, .inl (y_k100, 64, .inl (fun _ => 0)))]) (hS : va_S A s.heap H locs) (hl : lv_has ls 4 [(0, .ref b), (1, .ref q0), (2, .ref q8), (3, .int 0)]) : W p l e room_1 s m #[Value.ref b] below meth c H locs 22 71035 (lw_Z below #[Value.ref b] s) (F0 m 588 ls []) := by
  obtain ⟨hx, hb, hr, hml, hown, hts, hX, hbl, hlocks, hgv⟩ := id C0
  have hbA : ¬ A b := by rw [hAe]; exact Nat.not_le.mpr hbl
  have hA0 : ∀ q : Nat, s.heap.size ≤ q → A q := fun q h => by rw [hAe]; exact h
  refine lv_aload_n hx hb dL_law_588 rfl (lv_at hl 1 rfl) ?_
  refine lv_aload_n hx hb dL_law_589 rfl (lv_at hl 0 rfl) ?_
  refine lv_iload_n hx hb dL_law_590 rfl (lv_at hl 3 rfl) ?_
  refine lv_iconst (v := 1) hx hb dL_law_591 (by decide) ?_
  refine lv_iadd hx hb dL_law_592 ?_
  refine va_sld hx hb hX hbl hbA hS (l1_vin hL7 (vp_in_iff.mpr (by decide +kernel))) dL_law_593 ?_
  refine lv_topi (fun s1 es1 => ?_)
  refine lv_aload_n hx hb dL_law_594 rfl (lv_at hl 0 rfl) ?_
  refine lv_iload_n hx hb dL_law_595 rfl (lv_at hl 3 rfl) ?_
  refine lv_iconst (v := 2) hx hb dL_law_596 (by decide) ?_
  refine lv_iadd hx hb dL_law_597 ?_
  refine va_sld hx hb hX hbl hbA hS (l1_vin hL7 (vp_in_iff.mpr (by decide +kernel))) dL_law_598 ?_
  refine lv_topi (fun s2 es2 => ?_)
  refine lv_aload_n hx hb dL_law_599 rfl (lv_at hl 0 rfl) ?_
  refine lv_iload_n hx hb dL_law_600 rfl (lv_at hl 3 rfl) ?_
  refine lv_iconst (v := 3) hx hb dL_law_601 (by decide) ?_
  refine lv_iadd hx hb dL_law_602 ?_
  refine va_sld hx hb hX hbl hbA hS (l1_vin hL7 (vp_in_iff.mpr (by decide +kernel))) dL_law_603 ?_
  refine lv_topi (fun s3 es3 => ?_)
  refine lv_if_eq (tgt := 611) hx hb dL_law_604 (by decide) (fun c77 => ?_) (fun c77 => ?_)
  · refine lv_iconst (v := 0) hx hb dL_law_611 (by decide) ?_
    have hPc := hP.sub (ws' := [(q0, .inr (4, [.ref x_q7, .int 0, .ref x_q19, .ref x_q30])), (x_q7, .inl (x_k7, 24, .inr (.inr (.inr (.inr (fun _ => none))))))]) [0, 1] rfl
    have hKc := hK.sub (tys' := [(x_k7, .object "PointRings$Curve")]) [0] rfl
    refine vp_callSi (W.runV (As := [.int s1, .int s2, .int 0]) (rest := []) ⟨hx, hb, hml, hown, hts⟩ (ctX5_lift_n l N dC dI  q0 x_q7 x_q19 x_q30 x_k7 0 (fun _ => none) s1 s2 0 (-2) rfl (l1_at N s1)) (cwV 3 hts gL1_X5_lift_n rfl rfl rfl (by decide +kernel) ⟨Nat.le_of_ble_eq_true rfl, Nat.le_of_ble_eq_true rfl⟩) ⟨fun a U g mk q => by obtain ⟨q0, qP, qK, qN⟩ := q; exact ⟨q0, qP, va_K.moved (u := U) (U := U.calling g mk a) (Vm.Alike.refl U.vm) qK, nw_same (u := U) (U := U.calling g mk a) rfl qN⟩, va_recv hKc hPc (ci := 4) (q0 := 0) rfl rfl, fun U hU hW => ⟨rfl, by rw [hU]; exact hPc, va_K.moved hW.alike hKc, nw_warm hW hN⟩⟩ rfl rfl hl.1 rfl (lv_room (Nat.le_of_ble_eq_true rfl)) dL_law_612 ⟨by decide +kernel, by decide +kernel⟩) (fun q9 eq9 => ?_)
    subst q9
    refine lv_aload_n hx hb dL_law_615 rfl (lv_at hl 2 rfl) ?_
    refine lv_aload_n hx hb dL_law_616 rfl (lv_at hl 0 rfl) ?_
    refine lv_iload_n hx hb dL_law_617 rfl (lv_at hl 3 rfl) ?_
    refine lv_iconst (v := 1) hx hb dL_law_618 (by decide) ?_
    refine lv_iadd hx hb dL_law_619 ?_
    refine va_sld hx hb hX hbl hbA hS (l1_vin hL7 (vp_in_iff.mpr (by decide +kernel))) dL_law_620 ?_
    rw [← es1]
    refine lv_aload_n hx hb dL_law_621 rfl (lv_at hl 0 rfl) ?_
    refine lv_iload_n hx hb dL_law_622 rfl (lv_at hl 3 rfl) ?_
    refine lv_iconst (v := 2) hx hb dL_law_623 (by decide) ?_
    refine lv_iadd hx hb dL_law_624 ?_
    refine va_sld hx hb hX hbl hbA hS (l1_vin hL7 (vp_in_iff.mpr (by decide +kernel))) dL_law_625 ?_
    rw [← es2]
    refine lv_aload_n hx hb dL_law_626 rfl (lv_at hl 0 rfl) ?_
    refine lv_iload_n hx hb dL_law_627 rfl (lv_at hl 3 rfl) ?_
    refine lv_iconst (v := 3) hx hb dL_law_628 (by decide) ?_
    refine lv_iadd hx hb dL_law_629 ?_
    refine va_sld hx hb hX hbl hbA hS (l1_vin hL7 (vp_in_iff.mpr (by decide +kernel))) dL_law_630 ?_
    rw [← es3]
    refine lv_if_eq (tgt := 638) hx hb dL_law_631 (by decide) (fun c79 => ?_) (fun c79 => ?_)
    · refine lv_iconst (v := 0) hx hb dL_law_638 (by decide) ?_
      have hPc := hP.sub (ws' := [(q8, .inr (5, [.int 0, .int 0, .int 0, .ref y_q8, .ref y_q17, .int 0, .ref y_q26, .int 0, .ref y_q35, .int 0, .ref y_q43, .ref y_q51, .ref y_q59, .ref y_q67, .ref y_q75, .ref y_q83, .ref y_q92, .ref y_q100]))]) [9] rfl
      have hKc := hK.sub (tys' := []) [] rfl
      refine vp_callSi (W.runV (As := [.int s1, .int s2, .int 0]) (rest := [.int (-2)]) ⟨hx, hb, hml, hown, hts⟩ (ctX6_lift_n l N dC dI  q8 y_q8 y_q17 y_q26 y_q35 y_q43 y_q51 y_q59 y_q67 y_q75 y_q83 y_q92 y_q100 0 0 0 0 0 0 s1 s2 0 (-2) rfl (l1_in N s1)) (cwV 3 hts gL1_X6_lift_n rfl rfl rfl (by decide +kernel) ⟨Nat.le_of_ble_eq_true rfl, Nat.le_of_ble_eq_true rfl⟩) ⟨fun a U g mk q => by obtain ⟨q0, qP, qK, qN⟩ := q; exact ⟨q0, qP, va_K.moved (u := U) (U := U.calling g mk a) (Vm.Alike.refl U.vm) qK, nw_same (u := U) (U := U.calling g mk a) rfl qN⟩, va_recv hKc hPc (ci := 5) (q0 := 0) rfl rfl, fun U hU hW => ⟨rfl, by rw [hU]; exact hPc, va_K.moved hW.alike hKc, nw_warm hW hN⟩⟩ rfl rfl hl.1 rfl (lv_room (Nat.le_of_ble_eq_true rfl)) dL_law_639 ⟨by decide +kernel, by decide +kernel⟩) (fun q9 eq9 => ?_)
      subst q9
      refine lv_icmp_eq (tgt := 1739) hx hb dL_law_642 (by decide) (fun c81 => ?_) (fun c81 => ?_)
      · exact law1_end hL C0 hAe (by decide +kernel) (by decide +kernel) hS ls (lv_sub hl [0, 3] rfl)
      · exact absurd (rfl : (-2) = ((-2) : Int32)) c81
    · refine lv_iconst (v := 1) hx hb dL_law_634 (by decide) ?_
      refine lv_goto (tgt := 639) hx hb dL_law_635 (by decide) ?_
      have hPc := hP.sub (ws' := [(q8, .inr (5, [.int 0, .int 0, .int 0, .ref y_q8, .ref y_q17, .int 0, .ref y_q26, .int 0, .ref y_q35, .int 0, .ref y_q43, .ref y_q51, .ref y_q59, .ref y_q67, .ref y_q75, .ref y_q83, .ref y_q92, .ref y_q100]))]) [9] rfl
      have hKc := hK.sub (tys' := []) [] rfl
      refine vp_callSi (W.runV (As := [.int s1, .int s2, .int 1]) (rest := [.int (-2)]) ⟨hx, hb, hml, hown, hts⟩ (ctX6_lift_n l N dC dI  q8 y_q8 y_q17 y_q26 y_q35 y_q43 y_q51 y_q59 y_q67 y_q75 y_q83 y_q92 y_q100 0 0 0 0 0 0 s1 s2 1 (-2) rfl (l1_in N s1)) (cwV 3 hts gL1_X6_lift_n rfl rfl rfl (by decide +kernel) ⟨Nat.le_of_ble_eq_true rfl, Nat.le_of_ble_eq_true rfl⟩) ⟨fun a U g mk q => by obtain ⟨q0, qP, qK, qN⟩ := q; exact ⟨q0, qP, va_K.moved (u := U) (U := U.calling g mk a) (Vm.Alike.refl U.vm) qK, nw_same (u := U) (U := U.calling g mk a) rfl qN⟩, va_recv hKc hPc (ci := 5) (q0 := 0) rfl rfl, fun U hU hW => ⟨rfl, by rw [hU]; exact hPc, va_K.moved hW.alike hKc, nw_warm hW hN⟩⟩ rfl rfl hl.1 rfl (lv_room (Nat.le_of_ble_eq_true rfl)) dL_law_639 ⟨by decide +kernel, by decide +kernel⟩) (fun q9 eq9 => ?_)
      subst q9
      refine lv_icmp_eq (tgt := 1739) hx hb dL_law_642 (by decide) (fun c83 => ?_) (fun c83 => ?_)
      · exact law1_end hL C0 hAe (by decide +kernel) (by decide +kernel) hS ls (lv_sub hl [0, 3] rfl)
      · exact absurd (rfl : (-2) = ((-2) : Int32)) c83
  · refine lv_iconst (v := 1) hx hb dL_law_607 (by decide) ?_
    refine lv_goto (tgt := 612) hx hb dL_law_608 (by decide) ?_
    have hPc := hP.sub (ws' := [(q0, .inr (4, [.ref x_q7, .int 0, .ref x_q19, .ref x_q30])), (x_q7, .inl (x_k7, 24, .inr (.inr (.inr (.inr (fun _ => none))))))]) [0, 1] rfl
    have hKc := hK.sub (tys' := [(x_k7, .object "PointRings$Curve")]) [0] rfl
    refine vp_callSi (W.runV (As := [.int s1, .int s2, .int 1]) (rest := []) ⟨hx, hb, hml, hown, hts⟩ (ctX5_lift_n l N dC dI  q0 x_q7 x_q19 x_q30 x_k7 0 (fun _ => none) s1 s2 1 (-2) rfl (l1_at N s1)) (cwV 3 hts gL1_X5_lift_n rfl rfl rfl (by decide +kernel) ⟨Nat.le_of_ble_eq_true rfl, Nat.le_of_ble_eq_true rfl⟩) ⟨fun a U g mk q => by obtain ⟨q0, qP, qK, qN⟩ := q; exact ⟨q0, qP, va_K.moved (u := U) (U := U.calling g mk a) (Vm.Alike.refl U.vm) qK, nw_same (u := U) (U := U.calling g mk a) rfl qN⟩, va_recv hKc hPc (ci := 4) (q0 := 0) rfl rfl, fun U hU hW => ⟨rfl, by rw [hU]; exact hPc, va_K.moved hW.alike hKc, nw_warm hW hN⟩⟩ rfl rfl hl.1 rfl (lv_room (Nat.le_of_ble_eq_true rfl)) dL_law_612 ⟨by decide +kernel, by decide +kernel⟩) (fun q9 eq9 => ?_)
    subst q9
    refine lv_aload_n hx hb dL_law_615 rfl (lv_at hl 2 rfl) ?_
    refine lv_aload_n hx hb dL_law_616 rfl (lv_at hl 0 rfl) ?_
    refine lv_iload_n hx hb dL_law_617 rfl (lv_at hl 3 rfl) ?_
    refine lv_iconst (v := 1) hx hb dL_law_618 (by decide) ?_
    refine lv_iadd hx hb dL_law_619 ?_
    refine va_sld hx hb hX hbl hbA hS (l1_vin hL7 (vp_in_iff.mpr (by decide +kernel))) dL_law_620 ?_
    rw [← es1]
    refine lv_aload_n hx hb dL_law_621 rfl (lv_at hl 0 rfl) ?_
    refine lv_iload_n hx hb dL_law_622 rfl (lv_at hl 3 rfl) ?_
    refine lv_iconst (v := 2) hx hb dL_law_623 (by decide) ?_
    refine lv_iadd hx hb dL_law_624 ?_
    refine va_sld hx hb hX hbl hbA hS (l1_vin hL7 (vp_in_iff.mpr (by decide +kernel))) dL_law_625 ?_
    rw [← es2]
    refine lv_aload_n hx hb dL_law_626 rfl (lv_at hl 0 rfl) ?_
    refine lv_iload_n hx hb dL_law_627 rfl (lv_at hl 3 rfl) ?_
    refine lv_iconst (v := 3) hx hb dL_law_628 (by decide) ?_
    refine lv_iadd hx hb dL_law_629 ?_
    refine va_sld hx hb hX hbl hbA hS (l1_vin hL7 (vp_in_iff.mpr (by decide +kernel))) dL_law_630 ?_
    rw [← es3]
    refine lv_if_eq (tgt := 638) hx hb dL_law_631 (by decide) (fun c85 => ?_) (fun c85 => ?_)
    · refine lv_iconst (v := 0) hx hb dL_law_638 (by decide) ?_
      have hPc := hP.sub (ws' := [(q8, .inr (5, [.int 0, .int 0, .int 0, .ref y_q8, .ref y_q17, .int 0, .ref y_q26, .int 0, .ref y_q35, .int 0, .ref y_q43, .ref y_q51, .ref y_q59, .ref y_q67, .ref y_q75, .ref y_q83, .ref y_q92, .ref y_q100]))]) [9] rfl
      have hKc := hK.sub (tys' := []) [] rfl
      refine vp_callSi (W.runV (As := [.int s1, .int s2, .int 0]) (rest := [.int (-2)]) ⟨hx, hb, hml, hown, hts⟩ (ctX6_lift_n l N dC dI  q8 y_q8 y_q17 y_q26 y_q35 y_q43 y_q51 y_q59 y_q67 y_q75 y_q83 y_q92 y_q100 0 0 0 0 0 0 s1 s2 0 (-2) rfl (l1_in N s1)) (cwV 3 hts gL1_X6_lift_n rfl rfl rfl (by decide +kernel) ⟨Nat.le_of_ble_eq_true rfl, Nat.le_of_ble_eq_true rfl⟩) ⟨fun a U g mk q => by obtain ⟨q0, qP, qK, qN⟩ := q; exact ⟨q0, qP, va_K.moved (u := U) (U := U.calling g mk a) (Vm.Alike.refl U.vm) qK, nw_same (u := U) (U := U.calling g mk a) rfl qN⟩, va_recv hKc hPc (ci := 5) (q0 := 0) rfl rfl, fun U hU hW => ⟨rfl, by rw [hU]; exact hPc, va_K.moved hW.alike hKc, nw_warm hW hN⟩⟩ rfl rfl hl.1 rfl (lv_room (Nat.le_of_ble_eq_true rfl)) dL_law_639 ⟨by decide +kernel, by decide +kernel⟩) (fun q9 eq9 => ?_)
      subst q9
      refine lv_icmp_eq (tgt := 1739) hx hb dL_law_642 (by decide) (fun c87 => ?_) (fun c87 => ?_)
      · exact law1_end hL C0 hAe (by decide +kernel) (by decide +kernel) hS ls (lv_sub hl [0, 3] rfl)
      · exact absurd (rfl : (-2) = ((-2) : Int32)) c87
    · refine lv_iconst (v := 1) hx hb dL_law_634 (by decide) ?_
      refine lv_goto (tgt := 639) hx hb dL_law_635 (by decide) ?_
      have hPc := hP.sub (ws' := [(q8, .inr (5, [.int 0, .int 0, .int 0, .ref y_q8, .ref y_q17, .int 0, .ref y_q26, .int 0, .ref y_q35, .int 0, .ref y_q43, .ref y_q51, .ref y_q59, .ref y_q67, .ref y_q75, .ref y_q83, .ref y_q92, .ref y_q100]))]) [9] rfl
      have hKc := hK.sub (tys' := []) [] rfl
      refine vp_callSi (W.runV (As := [.int s1, .int s2, .int 1]) (rest := [.int (-2)]) ⟨hx, hb, hml, hown, hts⟩ (ctX6_lift_n l N dC dI  q8 y_q8 y_q17 y_q26 y_q35 y_q43 y_q51 y_q59 y_q67 y_q75 y_q83 y_q92 y_q100 0 0 0 0 0 0 s1 s2 1 (-2) rfl (l1_in N s1)) (cwV 3 hts gL1_X6_lift_n rfl rfl rfl (by decide +kernel) ⟨Nat.le_of_ble_eq_true rfl, Nat.le_of_ble_eq_true rfl⟩) ⟨fun a U g mk q => by obtain ⟨q0, qP, qK, qN⟩ := q; exact ⟨q0, qP, va_K.moved (u := U) (U := U.calling g mk a) (Vm.Alike.refl U.vm) qK, nw_same (u := U) (U := U.calling g mk a) rfl qN⟩, va_recv hKc hPc (ci := 5) (q0 := 0) rfl rfl, fun U hU hW => ⟨rfl, by rw [hU]; exact hPc, va_K.moved hW.alike hKc, nw_warm hW hN⟩⟩ rfl rfl hl.1 rfl (lv_room (Nat.le_of_ble_eq_true rfl)) dL_law_639 ⟨by decide +kernel, by decide +kernel⟩) (fun q9 eq9 => ?_)
      subst q9
      refine lv_icmp_eq (tgt := 1739) hx hb dL_law_642 (by decide) (fun c89 => ?_) (fun c89 => ?_)
      · exact law1_end hL C0 hAe (by decide +kernel) (by decide +kernel) hS ls (lv_sub hl [0, 3] rfl)
      · exact absurd (rfl : (-2) = ((-2) : Int32)) c89
set_option maxHeartbeats 4000000 in
set_option maxRecDepth 100000 in
theorem law1_c11 {p : Program} {l : Launch} {e : Env} {s : State} {m : MethodId} {below : List Frame} {meth : Method} {c : Code} {b L : Nat} {xs : Nat → Int32} (hL : L ≤ 7) (hL7 : L = 7) (C0 : lw_At p s m meth c b L xs) (N : Nat) (hN1 : 20000 ≤ N) (dC : Nat → ClassId) (dI : Nat → Nat → Nat) (q0 x_q7 x_q19 x_q8_23 x_q30 x_q10_38 x_q8_14_38 x_q17_14_38 x_q22_38 q8 y_q8 y_q17 y_q26 y_q35 y_q43 y_q51 y_q59 y_q67 y_q75 y_q83 y_q92 y_q100 : Nat) (x_k7 x_k8_23 x_k8_14_38 x_k17_14_38 x_k22_38 y_k8 y_k17 y_k26 y_k35 y_k43 y_k51 y_k59 y_k67 y_k75 y_k83 y_k92 y_k100 : ClassId) {A : Nat → Prop} (hAe : A = fun q => s.heap.size ≤ q) (H : Heap) (locs : List Loc) (ls : Array Slot) (hN : nw_all s) (hK : va_K (dC, dI) vwCl [(x_k7, .object "PointRings$Curve"), (x_k8_23, .int), (x_k8_14_38, .int), (x_k17_14_38, .int), (x_k22_38, .int), (y_k8, .int), (y_k17, .int), (y_k26, .int), (y_k35, .int), (y_k43, .int), (y_k51, .int), (y_k59, .int), (y_k67, .int), (y_k75, .int), (y_k83, .int), (y_k92, .boolean), (y_k100, .boolean)] s) (hP : va_P (dC, dI) vwCl [(q0, .inr (4, [.ref x_q7, .int 0, .ref x_q19, .ref x_q30])), (x_q7, .inl (x_k7, 24, .inr (.inr (.inr (.inr (fun _ => none)))))), (x_q19, .inr (1, [.ref x_q8_23, .int 0])), (x_q8_23, .inl (x_k8_23, 10007, .inl (fun _ => 0))), (x_q30, .inr (3, [.ref x_q19, .ref x_q10_38, .ref x_q22_38])), (x_q10_38, .inr (2, [.ref x_q8_14_38, .ref x_q17_14_38, .null, .int 1, .int 0, .int (-1)])), (x_q8_14_38, .inl (x_k8_14_38, 10007, .inl (fun _ => 0))), (x_q17_14_38, .inl (x_k17_14_38, 128, .inl (fun _ => 0))), (x_q22_38, .inl (x_k22_38, 4, .inl (fun _ => 0))), (q8, .inr (5, [.int 0, .int 0, .int 0, .ref y_q8, .ref y_q17, .int 0, .ref y_q26, .int 0, .ref y_q35, .int 0, .ref y_q43, .ref y_q51, .ref y_q59, .ref y_q67, .ref y_q75, .ref y_q83, .ref y_q92, .ref y_q100])), (y_q8, .inl (y_k8, 10008, .inl (fun _ => 0))), (y_q17, .inl (y_k17, 10008, .inl (fun _ => 0))), (y_q26, .inl (y_k26, 10300, .inl (fun _ => 0))), (y_q35, .inl (y_k35, 10008, .inl (fun _ => 0))), (y_q43, .inl (y_k43, 24, .inl (fun _ => 0))), (y_q51, .inl (y_k51, 24, .inl (fun _ => 0))), (y_q59, .inl (y_k59, 24, .inl (fun _ => 0))), (y_q67, .inl (y_k67, 24, .inl (fun _ => 0))), (y_q75, .inl (y_k75, 24, .inl (fun _ => 0))), (y_q83, .inl (y_k83, 24, .inl (fun _ => 0))), (y_q92, .inl (y_k92, 10300, .inl (fun _ => 0))), (y_q100, .inl (y_k100, 64, .inl (fun _ => 0)))] H) (hD : va_D A [(q0, .inr (4, [.ref x_q7, .int 0, .ref x_q19, .ref x_q30])), (x_q7, .inl (x_k7, 24, .inr (.inr (.inr (.inr (fun _ => none)))))), (x_q19, .inr (1, [.ref x_q8_23, .int 0])), (x_q8_23, .inl (x_k8_23, 10007, .inl (fun _ => 0))), (x_q30, .inr (3, [.ref x_q19, .ref x_q10_38, .ref x_q22_38])), (x_q10_38, .inr (2, [.ref x_q8_14_38, .ref x_q17_14_38, .null, .int 1, .int 0, .int (-1)])), (x_q8_14_38, .inl (x_k8_14_38, 10007, .inl (fun _ => 0))), (x_q17_14_38, .inl (x_k17_14_38, 128, .inl (fun _ => 0))), (x_q22_38, .inl (x_k22_38, 4, .inl (fun _ => 0))), (q8, .inr (5, [.int 0, .int 0, .int 0, .ref y_q8, .ref y_q17, .int 0, .ref y_q26, .int 0, .ref y_q35, .int 0, .ref y_q43, .ref y_q51, .ref y_q59, .ref y_q67, .ref y_q75, .ref y_q83, .ref y_q92, .ref y_q100])), (y_q8, .inl (y_k8, 10008, .inl (fun _ => 0))), (y_q17, .inl (y_k17, 10008, .inl (fun _ => 0))), (y_q26, .inl (y_k26, 10300, .inl (fun _ => 0))), (y_q35, .inl (y_k35, 10008, .inl (fun _ => 0))), (y_q43, .inl (y_k43, 24, .inl (fun _ => 0))), (y_q51, .inl (y_k51, 24, .inl (fun _ => 0))), (y_q59, .inl (y_k59, 24, .inl (fun _ => 0))), (y_q67, .inl (y_k67, 24, .inl (fun _ => 0))), (y_q75, .inl (y_k75, 24, .inl (fun _ => 0))), (y_q83, .inl (y_k83, 24, .inl (fun _ => 0))), (y_q92, .inl (y_k92, 10300, .inl (fun _ => 0))), (y_q100, .inl (y_k100, 64, .inl (fun _ => 0)))]) (hS : va_S A s.heap H locs) (hl : lv_has ls 4 [(0, .ref b), (1, .ref q0), (2, .ref q8), (3, .int 0)]) : W p l e room_1 s m #[Value.ref b] below meth c H locs 22 71035 (lw_Z below #[Value.ref b] s) (F0 m 647 ls []) := by
  obtain ⟨hx, hb, hr, hml, hown, hts, hX, hbl, hlocks, hgv⟩ := id C0
  have hbA : ¬ A b := by rw [hAe]; exact Nat.not_le.mpr hbl
  have hA0 : ∀ q : Nat, s.heap.size ≤ q → A q := fun q h => by rw [hAe]; exact h
  refine lv_aload_n hx hb dL_law_647 rfl (lv_at hl 1 rfl) ?_
  refine lv_aload_n hx hb dL_law_648 rfl (lv_at hl 0 rfl) ?_
  refine lv_iload_n hx hb dL_law_649 rfl (lv_at hl 3 rfl) ?_
  refine lv_iconst (v := 1) hx hb dL_law_650 (by decide) ?_
  refine lv_iadd hx hb dL_law_651 ?_
  refine va_sld hx hb hX hbl hbA hS (l1_vin hL7 (vp_in_iff.mpr (by decide +kernel))) dL_law_652 ?_
  refine lv_topi (fun s1 es1 => ?_)
  refine lv_aload_n hx hb dL_law_653 rfl (lv_at hl 0 rfl) ?_
  refine lv_iload_n hx hb dL_law_654 rfl (lv_at hl 3 rfl) ?_
  refine lv_iconst (v := 2) hx hb dL_law_655 (by decide) ?_
  refine lv_iadd hx hb dL_law_656 ?_
  refine va_sld hx hb hX hbl hbA hS (l1_vin hL7 (vp_in_iff.mpr (by decide +kernel))) dL_law_657 ?_
  refine lv_topi (fun s2 es2 => ?_)
  have hPc := hP.sub (ws' := [(q0, .inr (4, [.ref x_q7, .int 0, .ref x_q19, .ref x_q30])), (x_q7, .inl (x_k7, 24, .inr (.inr (.inr (.inr (fun _ => none))))))]) [0, 1] rfl
  have hKc := hK.sub (tys' := [(x_k7, .object "PointRings$Curve")]) [0] rfl
  refine vp_callSi (W.runV (As := [.int s1, .int s2]) (rest := []) ⟨hx, hb, hml, hown, hts⟩ (ctX5_near_n l N dC dI  q0 x_q7 x_q19 x_q30 x_k7 0 (fun _ => none) s1 s2 (-2) rfl (l1_at N s1)) (cwV 2 hts gL1_X5_near_n rfl rfl rfl (by decide +kernel) ⟨Nat.le_of_ble_eq_true rfl, Nat.le_of_ble_eq_true rfl⟩) ⟨fun a U g mk q => by obtain ⟨q0, qP, qK, qN⟩ := q; exact ⟨q0, qP, va_K.moved (u := U) (U := U.calling g mk a) (Vm.Alike.refl U.vm) qK, nw_same (u := U) (U := U.calling g mk a) rfl qN⟩, va_recv hKc hPc (ci := 4) (q0 := 0) rfl rfl, fun U hU hW => ⟨rfl, by rw [hU]; exact hPc, va_K.moved hW.alike hKc, nw_warm hW hN⟩⟩ rfl rfl hl.1 rfl (lv_room (Nat.le_of_ble_eq_true rfl)) dL_law_658 ⟨by decide +kernel, by decide +kernel⟩) (fun q9 eq9 => ?_)
  subst q9
  refine lv_aload_n hx hb dL_law_661 rfl (lv_at hl 2 rfl) ?_
  refine lv_aload_n hx hb dL_law_662 rfl (lv_at hl 0 rfl) ?_
  refine lv_iload_n hx hb dL_law_663 rfl (lv_at hl 3 rfl) ?_
  refine lv_iconst (v := 1) hx hb dL_law_664 (by decide) ?_
  refine lv_iadd hx hb dL_law_665 ?_
  refine va_sld hx hb hX hbl hbA hS (l1_vin hL7 (vp_in_iff.mpr (by decide +kernel))) dL_law_666 ?_
  rw [← es1]
  refine lv_aload_n hx hb dL_law_667 rfl (lv_at hl 0 rfl) ?_
  refine lv_iload_n hx hb dL_law_668 rfl (lv_at hl 3 rfl) ?_
  refine lv_iconst (v := 2) hx hb dL_law_669 (by decide) ?_
  refine lv_iadd hx hb dL_law_670 ?_
  refine va_sld hx hb hX hbl hbA hS (l1_vin hL7 (vp_in_iff.mpr (by decide +kernel))) dL_law_671 ?_
  rw [← es2]
  have hPc := hP.sub (ws' := [(q8, .inr (5, [.int 0, .int 0, .int 0, .ref y_q8, .ref y_q17, .int 0, .ref y_q26, .int 0, .ref y_q35, .int 0, .ref y_q43, .ref y_q51, .ref y_q59, .ref y_q67, .ref y_q75, .ref y_q83, .ref y_q92, .ref y_q100]))]) [9] rfl
  have hKc := hK.sub (tys' := []) [] rfl
  refine vp_callSi (W.runV (As := [.int s1, .int s2]) (rest := [.int (-2)]) ⟨hx, hb, hml, hown, hts⟩ (ctX6_near_n l N dC dI  q8 y_q8 y_q17 y_q26 y_q35 y_q43 y_q51 y_q59 y_q67 y_q75 y_q83 y_q92 y_q100 0 0 0 0 0 0 s1 s2 (-2) rfl (l1_in N s1)) (cwV 2 hts gL1_X6_near_n rfl rfl rfl (by decide +kernel) ⟨Nat.le_of_ble_eq_true rfl, Nat.le_of_ble_eq_true rfl⟩) ⟨fun a U g mk q => by obtain ⟨q0, qP, qK, qN⟩ := q; exact ⟨q0, qP, va_K.moved (u := U) (U := U.calling g mk a) (Vm.Alike.refl U.vm) qK, nw_same (u := U) (U := U.calling g mk a) rfl qN⟩, va_recv hKc hPc (ci := 5) (q0 := 0) rfl rfl, fun U hU hW => ⟨rfl, by rw [hU]; exact hPc, va_K.moved hW.alike hKc, nw_warm hW hN⟩⟩ rfl rfl hl.1 rfl (lv_room (Nat.le_of_ble_eq_true rfl)) dL_law_672 ⟨by decide +kernel, by decide +kernel⟩) (fun q9 eq9 => ?_)
  subst q9
  refine lv_icmp_eq (tgt := 1739) hx hb dL_law_675 (by decide) (fun c92 => ?_) (fun c92 => ?_)
  · exact law1_end hL C0 hAe (by decide +kernel) (by decide +kernel) hS ls (lv_sub hl [0, 3] rfl)
  · exact absurd (rfl : (-2) = ((-2) : Int32)) c92
set_option maxHeartbeats 4000000 in
set_option maxRecDepth 100000 in
theorem law1_c12 {p : Program} {l : Launch} {e : Env} {s : State} {m : MethodId} {below : List Frame} {meth : Method} {c : Code} {b L : Nat} {xs : Nat → Int32} (hL : L ≤ 7) (hL7 : L = 7) (C0 : lw_At p s m meth c b L xs) (N : Nat) (hN1 : 20000 ≤ N) (dC : Nat → ClassId) (dI : Nat → Nat → Nat) (q0 x_q7 x_q19 x_q8_23 x_q30 x_q10_38 x_q8_14_38 x_q17_14_38 x_q22_38 q8 y_q8 y_q17 y_q26 y_q35 y_q43 y_q51 y_q59 y_q67 y_q75 y_q83 y_q92 y_q100 : Nat) (x_k7 x_k8_23 x_k8_14_38 x_k17_14_38 x_k22_38 y_k8 y_k17 y_k26 y_k35 y_k43 y_k51 y_k59 y_k67 y_k75 y_k83 y_k92 y_k100 : ClassId) {A : Nat → Prop} (hAe : A = fun q => s.heap.size ≤ q) (H : Heap) (locs : List Loc) (ls : Array Slot) (hN : nw_all s) (hK : va_K (dC, dI) vwCl [(x_k7, .object "PointRings$Curve"), (x_k8_23, .int), (x_k8_14_38, .int), (x_k17_14_38, .int), (x_k22_38, .int), (y_k8, .int), (y_k17, .int), (y_k26, .int), (y_k35, .int), (y_k43, .int), (y_k51, .int), (y_k59, .int), (y_k67, .int), (y_k75, .int), (y_k83, .int), (y_k92, .boolean), (y_k100, .boolean)] s) (hP : va_P (dC, dI) vwCl [(q0, .inr (4, [.ref x_q7, .int 0, .ref x_q19, .ref x_q30])), (x_q7, .inl (x_k7, 24, .inr (.inr (.inr (.inr (fun _ => none)))))), (x_q19, .inr (1, [.ref x_q8_23, .int 0])), (x_q8_23, .inl (x_k8_23, 10007, .inl (fun _ => 0))), (x_q30, .inr (3, [.ref x_q19, .ref x_q10_38, .ref x_q22_38])), (x_q10_38, .inr (2, [.ref x_q8_14_38, .ref x_q17_14_38, .null, .int 1, .int 0, .int (-1)])), (x_q8_14_38, .inl (x_k8_14_38, 10007, .inl (fun _ => 0))), (x_q17_14_38, .inl (x_k17_14_38, 128, .inl (fun _ => 0))), (x_q22_38, .inl (x_k22_38, 4, .inl (fun _ => 0))), (q8, .inr (5, [.int 0, .int 0, .int 0, .ref y_q8, .ref y_q17, .int 0, .ref y_q26, .int 0, .ref y_q35, .int 0, .ref y_q43, .ref y_q51, .ref y_q59, .ref y_q67, .ref y_q75, .ref y_q83, .ref y_q92, .ref y_q100])), (y_q8, .inl (y_k8, 10008, .inl (fun _ => 0))), (y_q17, .inl (y_k17, 10008, .inl (fun _ => 0))), (y_q26, .inl (y_k26, 10300, .inl (fun _ => 0))), (y_q35, .inl (y_k35, 10008, .inl (fun _ => 0))), (y_q43, .inl (y_k43, 24, .inl (fun _ => 0))), (y_q51, .inl (y_k51, 24, .inl (fun _ => 0))), (y_q59, .inl (y_k59, 24, .inl (fun _ => 0))), (y_q67, .inl (y_k67, 24, .inl (fun _ => 0))), (y_q75, .inl (y_k75, 24, .inl (fun _ => 0))), (y_q83, .inl (y_k83, 24, .inl (fun _ => 0))), (y_q92, .inl (y_k92, 10300, .inl (fun _ => 0))), (y_q100, .inl (y_k100, 64, .inl (fun _ => 0)))] H) (hD : va_D A [(q0, .inr (4, [.ref x_q7, .int 0, .ref x_q19, .ref x_q30])), (x_q7, .inl (x_k7, 24, .inr (.inr (.inr (.inr (fun _ => none)))))), (x_q19, .inr (1, [.ref x_q8_23, .int 0])), (x_q8_23, .inl (x_k8_23, 10007, .inl (fun _ => 0))), (x_q30, .inr (3, [.ref x_q19, .ref x_q10_38, .ref x_q22_38])), (x_q10_38, .inr (2, [.ref x_q8_14_38, .ref x_q17_14_38, .null, .int 1, .int 0, .int (-1)])), (x_q8_14_38, .inl (x_k8_14_38, 10007, .inl (fun _ => 0))), (x_q17_14_38, .inl (x_k17_14_38, 128, .inl (fun _ => 0))), (x_q22_38, .inl (x_k22_38, 4, .inl (fun _ => 0))), (q8, .inr (5, [.int 0, .int 0, .int 0, .ref y_q8, .ref y_q17, .int 0, .ref y_q26, .int 0, .ref y_q35, .int 0, .ref y_q43, .ref y_q51, .ref y_q59, .ref y_q67, .ref y_q75, .ref y_q83, .ref y_q92, .ref y_q100])), (y_q8, .inl (y_k8, 10008, .inl (fun _ => 0))), (y_q17, .inl (y_k17, 10008, .inl (fun _ => 0))), (y_q26, .inl (y_k26, 10300, .inl (fun _ => 0))), (y_q35, .inl (y_k35, 10008, .inl (fun _ => 0))), (y_q43, .inl (y_k43, 24, .inl (fun _ => 0))), (y_q51, .inl (y_k51, 24, .inl (fun _ => 0))), (y_q59, .inl (y_k59, 24, .inl (fun _ => 0))), (y_q67, .inl (y_k67, 24, .inl (fun _ => 0))), (y_q75, .inl (y_k75, 24, .inl (fun _ => 0))), (y_q83, .inl (y_k83, 24, .inl (fun _ => 0))), (y_q92, .inl (y_k92, 10300, .inl (fun _ => 0))), (y_q100, .inl (y_k100, 64, .inl (fun _ => 0)))]) (hS : va_S A s.heap H locs) (hl : lv_has ls 4 [(0, .ref b), (1, .ref q0), (2, .ref q8), (3, .int 0)]) : W p l e room_1 s m #[Value.ref b] below meth c H locs 22 71035 (lw_Z below #[Value.ref b] s) (F0 m 680 ls []) := by
  obtain ⟨hx, hb, hr, hml, hown, hts, hX, hbl, hlocks, hgv⟩ := id C0
  have hbA : ¬ A b := by rw [hAe]; exact Nat.not_le.mpr hbl
  have hA0 : ∀ q : Nat, s.heap.size ≤ q → A q := fun q h => by rw [hAe]; exact h
  refine lv_aload_n hx hb dL_law_680 rfl (lv_at hl 1 rfl) ?_
  refine lv_aload_n hx hb dL_law_681 rfl (lv_at hl 0 rfl) ?_
  refine lv_iload_n hx hb dL_law_682 rfl (lv_at hl 3 rfl) ?_
  refine lv_iconst (v := 1) hx hb dL_law_683 (by decide) ?_
  refine lv_iadd hx hb dL_law_684 ?_
  refine va_sld hx hb hX hbl hbA hS (l1_vin hL7 (vp_in_iff.mpr (by decide +kernel))) dL_law_685 ?_
  refine lv_topi (fun s1 es1 => ?_)
  refine lv_aload_n hx hb dL_law_686 rfl (lv_at hl 0 rfl) ?_
  refine lv_iload_n hx hb dL_law_687 rfl (lv_at hl 3 rfl) ?_
  refine lv_iconst (v := 2) hx hb dL_law_688 (by decide) ?_
  refine lv_iadd hx hb dL_law_689 ?_
  refine va_sld hx hb hX hbl hbA hS (l1_vin hL7 (vp_in_iff.mpr (by decide +kernel))) dL_law_690 ?_
  refine lv_topi (fun s2 es2 => ?_)
  have hPc := hP.sub (ws' := [(q0, .inr (4, [.ref x_q7, .int 0, .ref x_q19, .ref x_q30])), (x_q7, .inl (x_k7, 24, .inr (.inr (.inr (.inr (fun _ => none))))))]) [0, 1] rfl
  have hKc := hK.sub (tys' := [(x_k7, .object "PointRings$Curve")]) [0] rfl
  refine vp_callSi (W.runV (As := [.int s1, .int s2]) (rest := []) ⟨hx, hb, hml, hown, hts⟩ (ctX5_nth_n l N dC dI  q0 x_q7 x_q19 x_q30 x_k7 0 (fun _ => none) s1 s2 (-2) rfl (l1_at N s1)) (cwV 2 hts gL1_X5_nth_n rfl rfl rfl (by decide +kernel) ⟨Nat.le_of_ble_eq_true rfl, Nat.le_of_ble_eq_true rfl⟩) ⟨fun a U g mk q => by obtain ⟨q0, qP, qK, qN⟩ := q; exact ⟨q0, qP, va_K.moved (u := U) (U := U.calling g mk a) (Vm.Alike.refl U.vm) qK, nw_same (u := U) (U := U.calling g mk a) rfl qN⟩, va_recv hKc hPc (ci := 4) (q0 := 0) rfl rfl, fun U hU hW => ⟨rfl, by rw [hU]; exact hPc, va_K.moved hW.alike hKc, nw_warm hW hN⟩⟩ rfl rfl hl.1 rfl (lv_room (Nat.le_of_ble_eq_true rfl)) dL_law_691 ⟨by decide +kernel, by decide +kernel⟩) (fun q9 eq9 => ?_)
  subst q9
  refine lv_aload_n hx hb dL_law_694 rfl (lv_at hl 2 rfl) ?_
  refine lv_aload_n hx hb dL_law_695 rfl (lv_at hl 0 rfl) ?_
  refine lv_iload_n hx hb dL_law_696 rfl (lv_at hl 3 rfl) ?_
  refine lv_iconst (v := 1) hx hb dL_law_697 (by decide) ?_
  refine lv_iadd hx hb dL_law_698 ?_
  refine va_sld hx hb hX hbl hbA hS (l1_vin hL7 (vp_in_iff.mpr (by decide +kernel))) dL_law_699 ?_
  rw [← es1]
  refine lv_aload_n hx hb dL_law_700 rfl (lv_at hl 0 rfl) ?_
  refine lv_iload_n hx hb dL_law_701 rfl (lv_at hl 3 rfl) ?_
  refine lv_iconst (v := 2) hx hb dL_law_702 (by decide) ?_
  refine lv_iadd hx hb dL_law_703 ?_
  refine va_sld hx hb hX hbl hbA hS (l1_vin hL7 (vp_in_iff.mpr (by decide +kernel))) dL_law_704 ?_
  rw [← es2]
  have hPc := hP.sub (ws' := [(q8, .inr (5, [.int 0, .int 0, .int 0, .ref y_q8, .ref y_q17, .int 0, .ref y_q26, .int 0, .ref y_q35, .int 0, .ref y_q43, .ref y_q51, .ref y_q59, .ref y_q67, .ref y_q75, .ref y_q83, .ref y_q92, .ref y_q100]))]) [9] rfl
  have hKc := hK.sub (tys' := []) [] rfl
  refine vp_callSi (W.runV (As := [.int s1, .int s2]) (rest := [.int (-2)]) ⟨hx, hb, hml, hown, hts⟩ (ctX6_nth_n l N dC dI  q8 y_q8 y_q17 y_q26 y_q35 y_q43 y_q51 y_q59 y_q67 y_q75 y_q83 y_q92 y_q100 0 0 0 0 0 0 s1 s2 (-2) rfl (l1_in N s1)) (cwV 2 hts gL1_X6_nth_n rfl rfl rfl (by decide +kernel) ⟨Nat.le_of_ble_eq_true rfl, Nat.le_of_ble_eq_true rfl⟩) ⟨fun a U g mk q => by obtain ⟨q0, qP, qK, qN⟩ := q; exact ⟨q0, qP, va_K.moved (u := U) (U := U.calling g mk a) (Vm.Alike.refl U.vm) qK, nw_same (u := U) (U := U.calling g mk a) rfl qN⟩, va_recv hKc hPc (ci := 5) (q0 := 0) rfl rfl, fun U hU hW => ⟨rfl, by rw [hU]; exact hPc, va_K.moved hW.alike hKc, nw_warm hW hN⟩⟩ rfl rfl hl.1 rfl (lv_room (Nat.le_of_ble_eq_true rfl)) dL_law_705 ⟨by decide +kernel, by decide +kernel⟩) (fun q9 eq9 => ?_)
  subst q9
  refine lv_icmp_eq (tgt := 1739) hx hb dL_law_708 (by decide) (fun c95 => ?_) (fun c95 => ?_)
  · exact law1_end hL C0 hAe (by decide +kernel) (by decide +kernel) hS ls (lv_sub hl [0, 3] rfl)
  · exact absurd (rfl : (-2) = ((-2) : Int32)) c95
set_option maxHeartbeats 4000000 in
set_option maxRecDepth 100000 in
theorem law1_c13 {p : Program} {l : Launch} {e : Env} {s : State} {m : MethodId} {below : List Frame} {meth : Method} {c : Code} {b L : Nat} {xs : Nat → Int32} (hL : L ≤ 7) (hL7 : L = 7) (C0 : lw_At p s m meth c b L xs) (N : Nat) (hN1 : 20000 ≤ N) (dC : Nat → ClassId) (dI : Nat → Nat → Nat) (q0 x_q7 x_q19 x_q8_23 x_q30 x_q10_38 x_q8_14_38 x_q17_14_38 x_q22_38 q8 y_q8 y_q17 y_q26 y_q35 y_q43 y_q51 y_q59 y_q67 y_q75 y_q83 y_q92 y_q100 : Nat) (x_k7 x_k8_23 x_k8_14_38 x_k17_14_38 x_k22_38 y_k8 y_k17 y_k26 y_k35 y_k43 y_k51 y_k59 y_k67 y_k75 y_k83 y_k92 y_k100 : ClassId) {A : Nat → Prop} (hAe : A = fun q => s.heap.size ≤ q) (H : Heap) (locs : List Loc) (ls : Array Slot) (hN : nw_all s) (hK : va_K (dC, dI) vwCl [(x_k7, .object "PointRings$Curve"), (x_k8_23, .int), (x_k8_14_38, .int), (x_k17_14_38, .int), (x_k22_38, .int), (y_k8, .int), (y_k17, .int), (y_k26, .int), (y_k35, .int), (y_k43, .int), (y_k51, .int), (y_k59, .int), (y_k67, .int), (y_k75, .int), (y_k83, .int), (y_k92, .boolean), (y_k100, .boolean)] s) (hP : va_P (dC, dI) vwCl [(q0, .inr (4, [.ref x_q7, .int 0, .ref x_q19, .ref x_q30])), (x_q7, .inl (x_k7, 24, .inr (.inr (.inr (.inr (fun _ => none)))))), (x_q19, .inr (1, [.ref x_q8_23, .int 0])), (x_q8_23, .inl (x_k8_23, 10007, .inl (fun _ => 0))), (x_q30, .inr (3, [.ref x_q19, .ref x_q10_38, .ref x_q22_38])), (x_q10_38, .inr (2, [.ref x_q8_14_38, .ref x_q17_14_38, .null, .int 1, .int 0, .int (-1)])), (x_q8_14_38, .inl (x_k8_14_38, 10007, .inl (fun _ => 0))), (x_q17_14_38, .inl (x_k17_14_38, 128, .inl (fun _ => 0))), (x_q22_38, .inl (x_k22_38, 4, .inl (fun _ => 0))), (q8, .inr (5, [.int 0, .int 0, .int 0, .ref y_q8, .ref y_q17, .int 0, .ref y_q26, .int 0, .ref y_q35, .int 0, .ref y_q43, .ref y_q51, .ref y_q59, .ref y_q67, .ref y_q75, .ref y_q83, .ref y_q92, .ref y_q100])), (y_q8, .inl (y_k8, 10008, .inl (fun _ => 0))), (y_q17, .inl (y_k17, 10008, .inl (fun _ => 0))), (y_q26, .inl (y_k26, 10300, .inl (fun _ => 0))), (y_q35, .inl (y_k35, 10008, .inl (fun _ => 0))), (y_q43, .inl (y_k43, 24, .inl (fun _ => 0))), (y_q51, .inl (y_k51, 24, .inl (fun _ => 0))), (y_q59, .inl (y_k59, 24, .inl (fun _ => 0))), (y_q67, .inl (y_k67, 24, .inl (fun _ => 0))), (y_q75, .inl (y_k75, 24, .inl (fun _ => 0))), (y_q83, .inl (y_k83, 24, .inl (fun _ => 0))), (y_q92, .inl (y_k92, 10300, .inl (fun _ => 0))), (y_q100, .inl (y_k100, 64, .inl (fun _ => 0)))] H) (hD : va_D A [(q0, .inr (4, [.ref x_q7, .int 0, .ref x_q19, .ref x_q30])), (x_q7, .inl (x_k7, 24, .inr (.inr (.inr (.inr (fun _ => none)))))), (x_q19, .inr (1, [.ref x_q8_23, .int 0])), (x_q8_23, .inl (x_k8_23, 10007, .inl (fun _ => 0))), (x_q30, .inr (3, [.ref x_q19, .ref x_q10_38, .ref x_q22_38])), (x_q10_38, .inr (2, [.ref x_q8_14_38, .ref x_q17_14_38, .null, .int 1, .int 0, .int (-1)])), (x_q8_14_38, .inl (x_k8_14_38, 10007, .inl (fun _ => 0))), (x_q17_14_38, .inl (x_k17_14_38, 128, .inl (fun _ => 0))), (x_q22_38, .inl (x_k22_38, 4, .inl (fun _ => 0))), (q8, .inr (5, [.int 0, .int 0, .int 0, .ref y_q8, .ref y_q17, .int 0, .ref y_q26, .int 0, .ref y_q35, .int 0, .ref y_q43, .ref y_q51, .ref y_q59, .ref y_q67, .ref y_q75, .ref y_q83, .ref y_q92, .ref y_q100])), (y_q8, .inl (y_k8, 10008, .inl (fun _ => 0))), (y_q17, .inl (y_k17, 10008, .inl (fun _ => 0))), (y_q26, .inl (y_k26, 10300, .inl (fun _ => 0))), (y_q35, .inl (y_k35, 10008, .inl (fun _ => 0))), (y_q43, .inl (y_k43, 24, .inl (fun _ => 0))), (y_q51, .inl (y_k51, 24, .inl (fun _ => 0))), (y_q59, .inl (y_k59, 24, .inl (fun _ => 0))), (y_q67, .inl (y_k67, 24, .inl (fun _ => 0))), (y_q75, .inl (y_k75, 24, .inl (fun _ => 0))), (y_q83, .inl (y_k83, 24, .inl (fun _ => 0))), (y_q92, .inl (y_k92, 10300, .inl (fun _ => 0))), (y_q100, .inl (y_k100, 64, .inl (fun _ => 0)))]) (hS : va_S A s.heap H locs) (hl : lv_has ls 4 [(0, .ref b), (1, .ref q0), (2, .ref q8), (3, .int 0)]) : W p l e room_1 s m #[Value.ref b] below meth c H locs 22 71035 (lw_Z below #[Value.ref b] s) (F0 m 713 ls []) := by
  obtain ⟨hx, hb, hr, hml, hown, hts, hX, hbl, hlocks, hgv⟩ := id C0
  have hbA : ¬ A b := by rw [hAe]; exact Nat.not_le.mpr hbl
  have hA0 : ∀ q : Nat, s.heap.size ≤ q → A q := fun q h => by rw [hAe]; exact h
  refine lv_aload_n hx hb dL_law_713 rfl (lv_at hl 1 rfl) ?_
  refine lv_aload_n hx hb dL_law_714 rfl (lv_at hl 0 rfl) ?_
  refine lv_iload_n hx hb dL_law_715 rfl (lv_at hl 3 rfl) ?_
  refine lv_iconst (v := 1) hx hb dL_law_716 (by decide) ?_
  refine lv_iadd hx hb dL_law_717 ?_
  refine va_sld hx hb hX hbl hbA hS (l1_vin hL7 (vp_in_iff.mpr (by decide +kernel))) dL_law_718 ?_
  refine lv_topi (fun s1 es1 => ?_)
  refine lv_aload_n hx hb dL_law_719 rfl (lv_at hl 0 rfl) ?_
  refine lv_iload_n hx hb dL_law_720 rfl (lv_at hl 3 rfl) ?_
  refine lv_iconst (v := 2) hx hb dL_law_721 (by decide) ?_
  refine lv_iadd hx hb dL_law_722 ?_
  refine va_sld hx hb hX hbl hbA hS (l1_vin hL7 (vp_in_iff.mpr (by decide +kernel))) dL_law_723 ?_
  refine lv_topi (fun s2 es2 => ?_)
  have hPc := hP.sub (ws' := [(q0, .inr (4, [.ref x_q7, .int 0, .ref x_q19, .ref x_q30])), (x_q7, .inl (x_k7, 24, .inr (.inr (.inr (.inr (fun _ => none))))))]) [0, 1] rfl
  have hKc := hK.sub (tys' := [(x_k7, .object "PointRings$Curve")]) [0] rfl
  refine vp_callSi (W.runV (As := [.int s1, .int s2]) (rest := []) ⟨hx, hb, hml, hown, hts⟩ (ctX5_rank_n l N dC dI  q0 x_q7 x_q19 x_q30 x_k7 0 (fun _ => none) s1 s2 (-2) rfl (l1_at N s1)) (cwV 2 hts gL1_X5_rank_n rfl rfl rfl (by decide +kernel) ⟨Nat.le_of_ble_eq_true rfl, Nat.le_of_ble_eq_true rfl⟩) ⟨fun a U g mk q => by obtain ⟨q0, qP, qK, qN⟩ := q; exact ⟨q0, qP, va_K.moved (u := U) (U := U.calling g mk a) (Vm.Alike.refl U.vm) qK, nw_same (u := U) (U := U.calling g mk a) rfl qN⟩, va_recv hKc hPc (ci := 4) (q0 := 0) rfl rfl, fun U hU hW => ⟨rfl, by rw [hU]; exact hPc, va_K.moved hW.alike hKc, nw_warm hW hN⟩⟩ rfl rfl hl.1 rfl (lv_room (Nat.le_of_ble_eq_true rfl)) dL_law_724 ⟨by decide +kernel, by decide +kernel⟩) (fun q9 eq9 => ?_)
  subst q9
  refine lv_aload_n hx hb dL_law_727 rfl (lv_at hl 2 rfl) ?_
  refine lv_aload_n hx hb dL_law_728 rfl (lv_at hl 0 rfl) ?_
  refine lv_iload_n hx hb dL_law_729 rfl (lv_at hl 3 rfl) ?_
  refine lv_iconst (v := 1) hx hb dL_law_730 (by decide) ?_
  refine lv_iadd hx hb dL_law_731 ?_
  refine va_sld hx hb hX hbl hbA hS (l1_vin hL7 (vp_in_iff.mpr (by decide +kernel))) dL_law_732 ?_
  rw [← es1]
  refine lv_aload_n hx hb dL_law_733 rfl (lv_at hl 0 rfl) ?_
  refine lv_iload_n hx hb dL_law_734 rfl (lv_at hl 3 rfl) ?_
  refine lv_iconst (v := 2) hx hb dL_law_735 (by decide) ?_
  refine lv_iadd hx hb dL_law_736 ?_
  refine va_sld hx hb hX hbl hbA hS (l1_vin hL7 (vp_in_iff.mpr (by decide +kernel))) dL_law_737 ?_
  rw [← es2]
  have hPc := hP.sub (ws' := [(q8, .inr (5, [.int 0, .int 0, .int 0, .ref y_q8, .ref y_q17, .int 0, .ref y_q26, .int 0, .ref y_q35, .int 0, .ref y_q43, .ref y_q51, .ref y_q59, .ref y_q67, .ref y_q75, .ref y_q83, .ref y_q92, .ref y_q100]))]) [9] rfl
  have hKc := hK.sub (tys' := []) [] rfl
  refine vp_callSi (W.runV (As := [.int s1, .int s2]) (rest := [.int (-2)]) ⟨hx, hb, hml, hown, hts⟩ (ctX6_rank_n l N dC dI  q8 y_q8 y_q17 y_q26 y_q35 y_q43 y_q51 y_q59 y_q67 y_q75 y_q83 y_q92 y_q100 0 0 0 0 0 0 s1 s2 (-2) rfl (l1_in N s1)) (cwV 2 hts gL1_X6_rank_n rfl rfl rfl (by decide +kernel) ⟨Nat.le_of_ble_eq_true rfl, Nat.le_of_ble_eq_true rfl⟩) ⟨fun a U g mk q => by obtain ⟨q0, qP, qK, qN⟩ := q; exact ⟨q0, qP, va_K.moved (u := U) (U := U.calling g mk a) (Vm.Alike.refl U.vm) qK, nw_same (u := U) (U := U.calling g mk a) rfl qN⟩, va_recv hKc hPc (ci := 5) (q0 := 0) rfl rfl, fun U hU hW => ⟨rfl, by rw [hU]; exact hPc, va_K.moved hW.alike hKc, nw_warm hW hN⟩⟩ rfl rfl hl.1 rfl (lv_room (Nat.le_of_ble_eq_true rfl)) dL_law_738 ⟨by decide +kernel, by decide +kernel⟩) (fun q9 eq9 => ?_)
  subst q9
  refine lv_icmp_eq (tgt := 1739) hx hb dL_law_741 (by decide) (fun c98 => ?_) (fun c98 => ?_)
  · exact law1_end hL C0 hAe (by decide +kernel) (by decide +kernel) hS ls (lv_sub hl [0, 3] rfl)
  · exact absurd (rfl : (-2) = ((-2) : Int32)) c98
set_option maxHeartbeats 4000000 in
set_option maxRecDepth 100000 in
theorem law1_c14 {p : Program} {l : Launch} {e : Env} {s : State} {m : MethodId} {below : List Frame} {meth : Method} {c : Code} {b L : Nat} {xs : Nat → Int32} (hL : L ≤ 7) (hL7 : L = 7) (C0 : lw_At p s m meth c b L xs) (N : Nat) (hN1 : 20000 ≤ N) (dC : Nat → ClassId) (dI : Nat → Nat → Nat) (q0 x_q7 x_q19 x_q8_23 x_q30 x_q10_38 x_q8_14_38 x_q17_14_38 x_q22_38 q8 y_q8 y_q17 y_q26 y_q35 y_q43 y_q51 y_q59 y_q67 y_q75 y_q83 y_q92 y_q100 : Nat) (x_k7 x_k8_23 x_k8_14_38 x_k17_14_38 x_k22_38 y_k8 y_k17 y_k26 y_k35 y_k43 y_k51 y_k59 y_k67 y_k75 y_k83 y_k92 y_k100 : ClassId) {A : Nat → Prop} (hAe : A = fun q => s.heap.size ≤ q) (H : Heap) (locs : List Loc) (ls : Array Slot) (hN : nw_all s) (hK : va_K (dC, dI) vwCl [(x_k7, .object "PointRings$Curve"), (x_k8_23, .int), (x_k8_14_38, .int), (x_k17_14_38, .int), (x_k22_38, .int), (y_k8, .int), (y_k17, .int), (y_k26, .int), (y_k35, .int), (y_k43, .int), (y_k51, .int), (y_k59, .int), (y_k67, .int), (y_k75, .int), (y_k83, .int), (y_k92, .boolean), (y_k100, .boolean)] s) (hP : va_P (dC, dI) vwCl [(q0, .inr (4, [.ref x_q7, .int 0, .ref x_q19, .ref x_q30])), (x_q7, .inl (x_k7, 24, .inr (.inr (.inr (.inr (fun _ => none)))))), (x_q19, .inr (1, [.ref x_q8_23, .int 0])), (x_q8_23, .inl (x_k8_23, 10007, .inl (fun _ => 0))), (x_q30, .inr (3, [.ref x_q19, .ref x_q10_38, .ref x_q22_38])), (x_q10_38, .inr (2, [.ref x_q8_14_38, .ref x_q17_14_38, .null, .int 1, .int 0, .int (-1)])), (x_q8_14_38, .inl (x_k8_14_38, 10007, .inl (fun _ => 0))), (x_q17_14_38, .inl (x_k17_14_38, 128, .inl (fun _ => 0))), (x_q22_38, .inl (x_k22_38, 4, .inl (fun _ => 0))), (q8, .inr (5, [.int 0, .int 0, .int 0, .ref y_q8, .ref y_q17, .int 0, .ref y_q26, .int 0, .ref y_q35, .int 0, .ref y_q43, .ref y_q51, .ref y_q59, .ref y_q67, .ref y_q75, .ref y_q83, .ref y_q92, .ref y_q100])), (y_q8, .inl (y_k8, 10008, .inl (fun _ => 0))), (y_q17, .inl (y_k17, 10008, .inl (fun _ => 0))), (y_q26, .inl (y_k26, 10300, .inl (fun _ => 0))), (y_q35, .inl (y_k35, 10008, .inl (fun _ => 0))), (y_q43, .inl (y_k43, 24, .inl (fun _ => 0))), (y_q51, .inl (y_k51, 24, .inl (fun _ => 0))), (y_q59, .inl (y_k59, 24, .inl (fun _ => 0))), (y_q67, .inl (y_k67, 24, .inl (fun _ => 0))), (y_q75, .inl (y_k75, 24, .inl (fun _ => 0))), (y_q83, .inl (y_k83, 24, .inl (fun _ => 0))), (y_q92, .inl (y_k92, 10300, .inl (fun _ => 0))), (y_q100, .inl (y_k100, 64, .inl (fun _ => 0)))] H) (hD : va_D A [(q0, .inr (4, [.ref x_q7, .int 0, .ref x_q19, .ref x_q30])), (x_q7, .inl (x_k7, 24, .inr (.inr (.inr (.inr (fun _ => none)))))), (x_q19, .inr (1, [.ref x_q8_23, .int 0])), (x_q8_23, .inl (x_k8_23, 10007, .inl (fun _ => 0))), (x_q30, .inr (3, [.ref x_q19, .ref x_q10_38, .ref x_q22_38])), (x_q10_38, .inr (2, [.ref x_q8_14_38, .ref x_q17_14_38, .null, .int 1, .int 0, .int (-1)])), (x_q8_14_38, .inl (x_k8_14_38, 10007, .inl (fun _ => 0))), (x_q17_14_38, .inl (x_k17_14_38, 128, .inl (fun _ => 0))), (x_q22_38, .inl (x_k22_38, 4, .inl (fun _ => 0))), (q8, .inr (5, [.int 0, .int 0, .int 0, .ref y_q8, .ref y_q17, .int 0, .ref y_q26, .int 0, .ref y_q35, .int 0, .ref y_q43, .ref y_q51, .ref y_q59, .ref y_q67, .ref y_q75, .ref y_q83, .ref y_q92, .ref y_q100])), (y_q8, .inl (y_k8, 10008, .inl (fun _ => 0))), (y_q17, .inl (y_k17, 10008, .inl (fun _ => 0))), (y_q26, .inl (y_k26, 10300, .inl (fun _ => 0))), (y_q35, .inl (y_k35, 10008, .inl (fun _ => 0))), (y_q43, .inl (y_k43, 24, .inl (fun _ => 0))), (y_q51, .inl (y_k51, 24, .inl (fun _ => 0))), (y_q59, .inl (y_k59, 24, .inl (fun _ => 0))), (y_q67, .inl (y_k67, 24, .inl (fun _ => 0))), (y_q75, .inl (y_k75, 24, .inl (fun _ => 0))), (y_q83, .inl (y_k83, 24, .inl (fun _ => 0))), (y_q92, .inl (y_k92, 10300, .inl (fun _ => 0))), (y_q100, .inl (y_k100, 64, .inl (fun _ => 0)))]) (hS : va_S A s.heap H locs) (hl : lv_has ls 4 [(0, .ref b), (1, .ref q0), (2, .ref q8), (3, .int 0)]) : W p l e room_1 s m #[Value.ref b] below meth c H locs 22 71035 (lw_Z below #[Value.ref b] s) (F0 m 746 ls []) := by
  obtain ⟨hx, hb, hr, hml, hown, hts, hX, hbl, hlocks, hgv⟩ := id C0
  have hbA : ¬ A b := by rw [hAe]; exact Nat.not_le.mpr hbl
  have hA0 : ∀ q : Nat, s.heap.size ≤ q → A q := fun q h => by rw [hAe]; exact h
  refine lv_aload_n hx hb dL_law_746 rfl (lv_at hl 1 rfl) ?_
  refine lv_aload_n hx hb dL_law_747 rfl (lv_at hl 0 rfl) ?_
  refine lv_iload_n hx hb dL_law_748 rfl (lv_at hl 3 rfl) ?_
  refine lv_iconst (v := 1) hx hb dL_law_749 (by decide) ?_
  refine lv_iadd hx hb dL_law_750 ?_
  refine va_sld hx hb hX hbl hbA hS (l1_vin hL7 (vp_in_iff.mpr (by decide +kernel))) dL_law_751 ?_
  refine lv_topi (fun s1 es1 => ?_)
  refine lv_aload_n hx hb dL_law_752 rfl (lv_at hl 0 rfl) ?_
  refine lv_iload_n hx hb dL_law_753 rfl (lv_at hl 3 rfl) ?_
  refine lv_iconst (v := 2) hx hb dL_law_754 (by decide) ?_
  refine lv_iadd hx hb dL_law_755 ?_
  refine va_sld hx hb hX hbl hbA hS (l1_vin hL7 (vp_in_iff.mpr (by decide +kernel))) dL_law_756 ?_
  refine lv_topi (fun s2 es2 => ?_)
  refine lv_aload_n hx hb dL_law_757 rfl (lv_at hl 0 rfl) ?_
  refine lv_iload_n hx hb dL_law_758 rfl (lv_at hl 3 rfl) ?_
  refine lv_iconst (v := 3) hx hb dL_law_759 (by decide) ?_
  refine lv_iadd hx hb dL_law_760 ?_
  refine va_sld hx hb hX hbl hbA hS (l1_vin hL7 (vp_in_iff.mpr (by decide +kernel))) dL_law_761 ?_
  refine lv_topi (fun s3 es3 => ?_)
  have hPc := hP.sub (ws' := [(q0, .inr (4, [.ref x_q7, .int 0, .ref x_q19, .ref x_q30])), (x_q7, .inl (x_k7, 24, .inr (.inr (.inr (.inr (fun _ => none))))))]) [0, 1] rfl
  have hKc := hK.sub (tys' := [(x_k7, .object "PointRings$Curve")]) [0] rfl
  refine vp_callSi (W.runV (As := [.int s1, .int s2, .int s3]) (rest := []) ⟨hx, hb, hml, hown, hts⟩ (ctX5_add_n l N dC dI  q0 x_q7 x_q19 x_q30 x_k7 0 (fun _ => none) s1 s2 s3 (-2) rfl (l1_at N s1)) (cwV 3 hts gL1_X5_add_n rfl rfl rfl (by decide +kernel) ⟨Nat.le_of_ble_eq_true rfl, Nat.le_of_ble_eq_true rfl⟩) ⟨fun a U g mk q => by obtain ⟨q0, qP, qK, qN⟩ := q; exact ⟨q0, qP, va_K.moved (u := U) (U := U.calling g mk a) (Vm.Alike.refl U.vm) qK, nw_same (u := U) (U := U.calling g mk a) rfl qN⟩, va_recv hKc hPc (ci := 4) (q0 := 0) rfl rfl, fun U hU hW => ⟨rfl, by rw [hU]; exact hPc, va_K.moved hW.alike hKc, nw_warm hW hN⟩⟩ rfl rfl hl.1 rfl (lv_room (Nat.le_of_ble_eq_true rfl)) dL_law_762 ⟨by decide +kernel, by decide +kernel⟩) (fun q9 eq9 => ?_)
  subst q9
  refine lv_aload_n hx hb dL_law_765 rfl (lv_at hl 2 rfl) ?_
  refine lv_aload_n hx hb dL_law_766 rfl (lv_at hl 0 rfl) ?_
  refine lv_iload_n hx hb dL_law_767 rfl (lv_at hl 3 rfl) ?_
  refine lv_iconst (v := 1) hx hb dL_law_768 (by decide) ?_
  refine lv_iadd hx hb dL_law_769 ?_
  refine va_sld hx hb hX hbl hbA hS (l1_vin hL7 (vp_in_iff.mpr (by decide +kernel))) dL_law_770 ?_
  rw [← es1]
  refine lv_aload_n hx hb dL_law_771 rfl (lv_at hl 0 rfl) ?_
  refine lv_iload_n hx hb dL_law_772 rfl (lv_at hl 3 rfl) ?_
  refine lv_iconst (v := 2) hx hb dL_law_773 (by decide) ?_
  refine lv_iadd hx hb dL_law_774 ?_
  refine va_sld hx hb hX hbl hbA hS (l1_vin hL7 (vp_in_iff.mpr (by decide +kernel))) dL_law_775 ?_
  rw [← es2]
  refine lv_aload_n hx hb dL_law_776 rfl (lv_at hl 0 rfl) ?_
  refine lv_iload_n hx hb dL_law_777 rfl (lv_at hl 3 rfl) ?_
  refine lv_iconst (v := 3) hx hb dL_law_778 (by decide) ?_
  refine lv_iadd hx hb dL_law_779 ?_
  refine va_sld hx hb hX hbl hbA hS (l1_vin hL7 (vp_in_iff.mpr (by decide +kernel))) dL_law_780 ?_
  rw [← es3]
  have hPc := hP.sub (ws' := [(q8, .inr (5, [.int 0, .int 0, .int 0, .ref y_q8, .ref y_q17, .int 0, .ref y_q26, .int 0, .ref y_q35, .int 0, .ref y_q43, .ref y_q51, .ref y_q59, .ref y_q67, .ref y_q75, .ref y_q83, .ref y_q92, .ref y_q100]))]) [9] rfl
  have hKc := hK.sub (tys' := []) [] rfl
  refine vp_callSi (W.runV (As := [.int s1, .int s2, .int s3]) (rest := [.int (-2)]) ⟨hx, hb, hml, hown, hts⟩ (ctX6_add_n l N dC dI  q8 y_q8 y_q17 y_q26 y_q35 y_q43 y_q51 y_q59 y_q67 y_q75 y_q83 y_q92 y_q100 0 0 0 0 0 0 s1 s2 s3 (-2) rfl (l1_in N s1)) (cwV 3 hts gL1_X6_add_n rfl rfl rfl (by decide +kernel) ⟨Nat.le_of_ble_eq_true rfl, Nat.le_of_ble_eq_true rfl⟩) ⟨fun a U g mk q => by obtain ⟨q0, qP, qK, qN⟩ := q; exact ⟨q0, qP, va_K.moved (u := U) (U := U.calling g mk a) (Vm.Alike.refl U.vm) qK, nw_same (u := U) (U := U.calling g mk a) rfl qN⟩, va_recv hKc hPc (ci := 5) (q0 := 0) rfl rfl, fun U hU hW => ⟨rfl, by rw [hU]; exact hPc, va_K.moved hW.alike hKc, nw_warm hW hN⟩⟩ rfl rfl hl.1 rfl (lv_room (Nat.le_of_ble_eq_true rfl)) dL_law_781 ⟨by decide +kernel, by decide +kernel⟩) (fun q9 eq9 => ?_)
  subst q9
  refine lv_icmp_eq (tgt := 1739) hx hb dL_law_784 (by decide) (fun c101 => ?_) (fun c101 => ?_)
  · exact law1_end hL C0 hAe (by decide +kernel) (by decide +kernel) hS ls (lv_sub hl [0, 3] rfl)
  · exact absurd (rfl : (-2) = ((-2) : Int32)) c101
set_option maxHeartbeats 4000000 in
set_option maxRecDepth 100000 in
theorem law1_c15 {p : Program} {l : Launch} {e : Env} {s : State} {m : MethodId} {below : List Frame} {meth : Method} {c : Code} {b L : Nat} {xs : Nat → Int32} (hL : L ≤ 7) (hL7 : L = 7) (C0 : lw_At p s m meth c b L xs) (N : Nat) (hN1 : 20000 ≤ N) (dC : Nat → ClassId) (dI : Nat → Nat → Nat) (q0 x_q7 x_q19 x_q8_23 x_q30 x_q10_38 x_q8_14_38 x_q17_14_38 x_q22_38 q8 y_q8 y_q17 y_q26 y_q35 y_q43 y_q51 y_q59 y_q67 y_q75 y_q83 y_q92 y_q100 : Nat) (x_k7 x_k8_23 x_k8_14_38 x_k17_14_38 x_k22_38 y_k8 y_k17 y_k26 y_k35 y_k43 y_k51 y_k59 y_k67 y_k75 y_k83 y_k92 y_k100 : ClassId) {A : Nat → Prop} (hAe : A = fun q => s.heap.size ≤ q) (H : Heap) (locs : List Loc) (ls : Array Slot) (hN : nw_all s) (hK : va_K (dC, dI) vwCl [(x_k7, .object "PointRings$Curve"), (x_k8_23, .int), (x_k8_14_38, .int), (x_k17_14_38, .int), (x_k22_38, .int), (y_k8, .int), (y_k17, .int), (y_k26, .int), (y_k35, .int), (y_k43, .int), (y_k51, .int), (y_k59, .int), (y_k67, .int), (y_k75, .int), (y_k83, .int), (y_k92, .boolean), (y_k100, .boolean)] s) (hP : va_P (dC, dI) vwCl [(q0, .inr (4, [.ref x_q7, .int 0, .ref x_q19, .ref x_q30])), (x_q7, .inl (x_k7, 24, .inr (.inr (.inr (.inr (fun _ => none)))))), (x_q19, .inr (1, [.ref x_q8_23, .int 0])), (x_q8_23, .inl (x_k8_23, 10007, .inl (fun _ => 0))), (x_q30, .inr (3, [.ref x_q19, .ref x_q10_38, .ref x_q22_38])), (x_q10_38, .inr (2, [.ref x_q8_14_38, .ref x_q17_14_38, .null, .int 1, .int 0, .int (-1)])), (x_q8_14_38, .inl (x_k8_14_38, 10007, .inl (fun _ => 0))), (x_q17_14_38, .inl (x_k17_14_38, 128, .inl (fun _ => 0))), (x_q22_38, .inl (x_k22_38, 4, .inl (fun _ => 0))), (q8, .inr (5, [.int 0, .int 0, .int 0, .ref y_q8, .ref y_q17, .int 0, .ref y_q26, .int 0, .ref y_q35, .int 0, .ref y_q43, .ref y_q51, .ref y_q59, .ref y_q67, .ref y_q75, .ref y_q83, .ref y_q92, .ref y_q100])), (y_q8, .inl (y_k8, 10008, .inl (fun _ => 0))), (y_q17, .inl (y_k17, 10008, .inl (fun _ => 0))), (y_q26, .inl (y_k26, 10300, .inl (fun _ => 0))), (y_q35, .inl (y_k35, 10008, .inl (fun _ => 0))), (y_q43, .inl (y_k43, 24, .inl (fun _ => 0))), (y_q51, .inl (y_k51, 24, .inl (fun _ => 0))), (y_q59, .inl (y_k59, 24, .inl (fun _ => 0))), (y_q67, .inl (y_k67, 24, .inl (fun _ => 0))), (y_q75, .inl (y_k75, 24, .inl (fun _ => 0))), (y_q83, .inl (y_k83, 24, .inl (fun _ => 0))), (y_q92, .inl (y_k92, 10300, .inl (fun _ => 0))), (y_q100, .inl (y_k100, 64, .inl (fun _ => 0)))] H) (hD : va_D A [(q0, .inr (4, [.ref x_q7, .int 0, .ref x_q19, .ref x_q30])), (x_q7, .inl (x_k7, 24, .inr (.inr (.inr (.inr (fun _ => none)))))), (x_q19, .inr (1, [.ref x_q8_23, .int 0])), (x_q8_23, .inl (x_k8_23, 10007, .inl (fun _ => 0))), (x_q30, .inr (3, [.ref x_q19, .ref x_q10_38, .ref x_q22_38])), (x_q10_38, .inr (2, [.ref x_q8_14_38, .ref x_q17_14_38, .null, .int 1, .int 0, .int (-1)])), (x_q8_14_38, .inl (x_k8_14_38, 10007, .inl (fun _ => 0))), (x_q17_14_38, .inl (x_k17_14_38, 128, .inl (fun _ => 0))), (x_q22_38, .inl (x_k22_38, 4, .inl (fun _ => 0))), (q8, .inr (5, [.int 0, .int 0, .int 0, .ref y_q8, .ref y_q17, .int 0, .ref y_q26, .int 0, .ref y_q35, .int 0, .ref y_q43, .ref y_q51, .ref y_q59, .ref y_q67, .ref y_q75, .ref y_q83, .ref y_q92, .ref y_q100])), (y_q8, .inl (y_k8, 10008, .inl (fun _ => 0))), (y_q17, .inl (y_k17, 10008, .inl (fun _ => 0))), (y_q26, .inl (y_k26, 10300, .inl (fun _ => 0))), (y_q35, .inl (y_k35, 10008, .inl (fun _ => 0))), (y_q43, .inl (y_k43, 24, .inl (fun _ => 0))), (y_q51, .inl (y_k51, 24, .inl (fun _ => 0))), (y_q59, .inl (y_k59, 24, .inl (fun _ => 0))), (y_q67, .inl (y_k67, 24, .inl (fun _ => 0))), (y_q75, .inl (y_k75, 24, .inl (fun _ => 0))), (y_q83, .inl (y_k83, 24, .inl (fun _ => 0))), (y_q92, .inl (y_k92, 10300, .inl (fun _ => 0))), (y_q100, .inl (y_k100, 64, .inl (fun _ => 0)))]) (hS : va_S A s.heap H locs) (hl : lv_has ls 4 [(0, .ref b), (1, .ref q0), (2, .ref q8), (3, .int 0)]) : W p l e room_1 s m #[Value.ref b] below meth c H locs 22 71035 (lw_Z below #[Value.ref b] s) (F0 m 789 ls []) := by
  obtain ⟨hx, hb, hr, hml, hown, hts, hX, hbl, hlocks, hgv⟩ := id C0
  have hbA : ¬ A b := by rw [hAe]; exact Nat.not_le.mpr hbl
  have hA0 : ∀ q : Nat, s.heap.size ≤ q → A q := fun q h => by rw [hAe]; exact h
  refine lv_aload_n hx hb dL_law_789 rfl (lv_at hl 1 rfl) ?_
  refine lv_aload_n hx hb dL_law_790 rfl (lv_at hl 0 rfl) ?_
  refine lv_iload_n hx hb dL_law_791 rfl (lv_at hl 3 rfl) ?_
  refine lv_iconst (v := 1) hx hb dL_law_792 (by decide) ?_
  refine lv_iadd hx hb dL_law_793 ?_
  refine va_sld hx hb hX hbl hbA hS (l1_vin hL7 (vp_in_iff.mpr (by decide +kernel))) dL_law_794 ?_
  refine lv_topi (fun s1 es1 => ?_)
  refine lv_aload_n hx hb dL_law_795 rfl (lv_at hl 0 rfl) ?_
  refine lv_iload_n hx hb dL_law_796 rfl (lv_at hl 3 rfl) ?_
  refine lv_iconst (v := 2) hx hb dL_law_797 (by decide) ?_
  refine lv_iadd hx hb dL_law_798 ?_
  refine va_sld hx hb hX hbl hbA hS (l1_vin hL7 (vp_in_iff.mpr (by decide +kernel))) dL_law_799 ?_
  refine lv_topi (fun s2 es2 => ?_)
  have hPc := hP.sub (ws' := [(q0, .inr (4, [.ref x_q7, .int 0, .ref x_q19, .ref x_q30])), (x_q7, .inl (x_k7, 24, .inr (.inr (.inr (.inr (fun _ => none))))))]) [0, 1] rfl
  have hKc := hK.sub (tys' := [(x_k7, .object "PointRings$Curve")]) [0] rfl
  refine vp_callSi (W.runV (As := [.int s1, .int s2]) (rest := []) ⟨hx, hb, hml, hown, hts⟩ (ctX5_negative_n l N dC dI  q0 x_q7 x_q19 x_q30 x_k7 0 (fun _ => none) s1 s2 (-2) rfl (l1_at N s1)) (cwV 2 hts gL1_X5_negative_n rfl rfl rfl (by decide +kernel) ⟨Nat.le_of_ble_eq_true rfl, Nat.le_of_ble_eq_true rfl⟩) ⟨fun a U g mk q => by obtain ⟨q0, qP, qK, qN⟩ := q; exact ⟨q0, qP, va_K.moved (u := U) (U := U.calling g mk a) (Vm.Alike.refl U.vm) qK, nw_same (u := U) (U := U.calling g mk a) rfl qN⟩, va_recv hKc hPc (ci := 4) (q0 := 0) rfl rfl, fun U hU hW => ⟨rfl, by rw [hU]; exact hPc, va_K.moved hW.alike hKc, nw_warm hW hN⟩⟩ rfl rfl hl.1 rfl (lv_room (Nat.le_of_ble_eq_true rfl)) dL_law_800 ⟨by decide +kernel, by decide +kernel⟩) (fun q9 eq9 => ?_)
  subst q9
  refine lv_aload_n hx hb dL_law_803 rfl (lv_at hl 2 rfl) ?_
  refine lv_aload_n hx hb dL_law_804 rfl (lv_at hl 0 rfl) ?_
  refine lv_iload_n hx hb dL_law_805 rfl (lv_at hl 3 rfl) ?_
  refine lv_iconst (v := 1) hx hb dL_law_806 (by decide) ?_
  refine lv_iadd hx hb dL_law_807 ?_
  refine va_sld hx hb hX hbl hbA hS (l1_vin hL7 (vp_in_iff.mpr (by decide +kernel))) dL_law_808 ?_
  rw [← es1]
  refine lv_aload_n hx hb dL_law_809 rfl (lv_at hl 0 rfl) ?_
  refine lv_iload_n hx hb dL_law_810 rfl (lv_at hl 3 rfl) ?_
  refine lv_iconst (v := 2) hx hb dL_law_811 (by decide) ?_
  refine lv_iadd hx hb dL_law_812 ?_
  refine va_sld hx hb hX hbl hbA hS (l1_vin hL7 (vp_in_iff.mpr (by decide +kernel))) dL_law_813 ?_
  rw [← es2]
  have hPc := hP.sub (ws' := [(q8, .inr (5, [.int 0, .int 0, .int 0, .ref y_q8, .ref y_q17, .int 0, .ref y_q26, .int 0, .ref y_q35, .int 0, .ref y_q43, .ref y_q51, .ref y_q59, .ref y_q67, .ref y_q75, .ref y_q83, .ref y_q92, .ref y_q100]))]) [9] rfl
  have hKc := hK.sub (tys' := []) [] rfl
  refine vp_callSi (W.runV (As := [.int s1, .int s2]) (rest := [.int (-2)]) ⟨hx, hb, hml, hown, hts⟩ (ctX6_negative_n l N dC dI  q8 y_q8 y_q17 y_q26 y_q35 y_q43 y_q51 y_q59 y_q67 y_q75 y_q83 y_q92 y_q100 0 0 0 0 0 0 s1 s2 (-2) rfl (l1_in N s1)) (cwV 2 hts gL1_X6_negative_n rfl rfl rfl (by decide +kernel) ⟨Nat.le_of_ble_eq_true rfl, Nat.le_of_ble_eq_true rfl⟩) ⟨fun a U g mk q => by obtain ⟨q0, qP, qK, qN⟩ := q; exact ⟨q0, qP, va_K.moved (u := U) (U := U.calling g mk a) (Vm.Alike.refl U.vm) qK, nw_same (u := U) (U := U.calling g mk a) rfl qN⟩, va_recv hKc hPc (ci := 5) (q0 := 0) rfl rfl, fun U hU hW => ⟨rfl, by rw [hU]; exact hPc, va_K.moved hW.alike hKc, nw_warm hW hN⟩⟩ rfl rfl hl.1 rfl (lv_room (Nat.le_of_ble_eq_true rfl)) dL_law_814 ⟨by decide +kernel, by decide +kernel⟩) (fun q9 eq9 => ?_)
  subst q9
  refine lv_icmp_eq (tgt := 1739) hx hb dL_law_817 (by decide) (fun c104 => ?_) (fun c104 => ?_)
  · exact law1_end hL C0 hAe (by decide +kernel) (by decide +kernel) hS ls (lv_sub hl [0, 3] rfl)
  · exact absurd (rfl : (-2) = ((-2) : Int32)) c104
set_option maxHeartbeats 4000000 in
set_option maxRecDepth 100000 in
theorem law1_c16 {p : Program} {l : Launch} {e : Env} {s : State} {m : MethodId} {below : List Frame} {meth : Method} {c : Code} {b L : Nat} {xs : Nat → Int32} (hL : L ≤ 7) (hL7 : L = 7) (C0 : lw_At p s m meth c b L xs) (N : Nat) (hN1 : 20000 ≤ N) (dC : Nat → ClassId) (dI : Nat → Nat → Nat) (q0 x_q7 x_q19 x_q8_23 x_q30 x_q10_38 x_q8_14_38 x_q17_14_38 x_q22_38 q8 y_q8 y_q17 y_q26 y_q35 y_q43 y_q51 y_q59 y_q67 y_q75 y_q83 y_q92 y_q100 : Nat) (x_k7 x_k8_23 x_k8_14_38 x_k17_14_38 x_k22_38 y_k8 y_k17 y_k26 y_k35 y_k43 y_k51 y_k59 y_k67 y_k75 y_k83 y_k92 y_k100 : ClassId) {A : Nat → Prop} (hAe : A = fun q => s.heap.size ≤ q) (H : Heap) (locs : List Loc) (ls : Array Slot) (hN : nw_all s) (hK : va_K (dC, dI) vwCl [(x_k7, .object "PointRings$Curve"), (x_k8_23, .int), (x_k8_14_38, .int), (x_k17_14_38, .int), (x_k22_38, .int), (y_k8, .int), (y_k17, .int), (y_k26, .int), (y_k35, .int), (y_k43, .int), (y_k51, .int), (y_k59, .int), (y_k67, .int), (y_k75, .int), (y_k83, .int), (y_k92, .boolean), (y_k100, .boolean)] s) (hP : va_P (dC, dI) vwCl [(q0, .inr (4, [.ref x_q7, .int 0, .ref x_q19, .ref x_q30])), (x_q7, .inl (x_k7, 24, .inr (.inr (.inr (.inr (fun _ => none)))))), (x_q19, .inr (1, [.ref x_q8_23, .int 0])), (x_q8_23, .inl (x_k8_23, 10007, .inl (fun _ => 0))), (x_q30, .inr (3, [.ref x_q19, .ref x_q10_38, .ref x_q22_38])), (x_q10_38, .inr (2, [.ref x_q8_14_38, .ref x_q17_14_38, .null, .int 1, .int 0, .int (-1)])), (x_q8_14_38, .inl (x_k8_14_38, 10007, .inl (fun _ => 0))), (x_q17_14_38, .inl (x_k17_14_38, 128, .inl (fun _ => 0))), (x_q22_38, .inl (x_k22_38, 4, .inl (fun _ => 0))), (q8, .inr (5, [.int 0, .int 0, .int 0, .ref y_q8, .ref y_q17, .int 0, .ref y_q26, .int 0, .ref y_q35, .int 0, .ref y_q43, .ref y_q51, .ref y_q59, .ref y_q67, .ref y_q75, .ref y_q83, .ref y_q92, .ref y_q100])), (y_q8, .inl (y_k8, 10008, .inl (fun _ => 0))), (y_q17, .inl (y_k17, 10008, .inl (fun _ => 0))), (y_q26, .inl (y_k26, 10300, .inl (fun _ => 0))), (y_q35, .inl (y_k35, 10008, .inl (fun _ => 0))), (y_q43, .inl (y_k43, 24, .inl (fun _ => 0))), (y_q51, .inl (y_k51, 24, .inl (fun _ => 0))), (y_q59, .inl (y_k59, 24, .inl (fun _ => 0))), (y_q67, .inl (y_k67, 24, .inl (fun _ => 0))), (y_q75, .inl (y_k75, 24, .inl (fun _ => 0))), (y_q83, .inl (y_k83, 24, .inl (fun _ => 0))), (y_q92, .inl (y_k92, 10300, .inl (fun _ => 0))), (y_q100, .inl (y_k100, 64, .inl (fun _ => 0)))] H) (hD : va_D A [(q0, .inr (4, [.ref x_q7, .int 0, .ref x_q19, .ref x_q30])), (x_q7, .inl (x_k7, 24, .inr (.inr (.inr (.inr (fun _ => none)))))), (x_q19, .inr (1, [.ref x_q8_23, .int 0])), (x_q8_23, .inl (x_k8_23, 10007, .inl (fun _ => 0))), (x_q30, .inr (3, [.ref x_q19, .ref x_q10_38, .ref x_q22_38])), (x_q10_38, .inr (2, [.ref x_q8_14_38, .ref x_q17_14_38, .null, .int 1, .int 0, .int (-1)])), (x_q8_14_38, .inl (x_k8_14_38, 10007, .inl (fun _ => 0))), (x_q17_14_38, .inl (x_k17_14_38, 128, .inl (fun _ => 0))), (x_q22_38, .inl (x_k22_38, 4, .inl (fun _ => 0))), (q8, .inr (5, [.int 0, .int 0, .int 0, .ref y_q8, .ref y_q17, .int 0, .ref y_q26, .int 0, .ref y_q35, .int 0, .ref y_q43, .ref y_q51, .ref y_q59, .ref y_q67, .ref y_q75, .ref y_q83, .ref y_q92, .ref y_q100])), (y_q8, .inl (y_k8, 10008, .inl (fun _ => 0))), (y_q17, .inl (y_k17, 10008, .inl (fun _ => 0))), (y_q26, .inl (y_k26, 10300, .inl (fun _ => 0))), (y_q35, .inl (y_k35, 10008, .inl (fun _ => 0))), (y_q43, .inl (y_k43, 24, .inl (fun _ => 0))), (y_q51, .inl (y_k51, 24, .inl (fun _ => 0))), (y_q59, .inl (y_k59, 24, .inl (fun _ => 0))), (y_q67, .inl (y_k67, 24, .inl (fun _ => 0))), (y_q75, .inl (y_k75, 24, .inl (fun _ => 0))), (y_q83, .inl (y_k83, 24, .inl (fun _ => 0))), (y_q92, .inl (y_k92, 10300, .inl (fun _ => 0))), (y_q100, .inl (y_k100, 64, .inl (fun _ => 0)))]) (hS : va_S A s.heap H locs) (hl : lv_has ls 4 [(0, .ref b), (1, .ref q0), (2, .ref q8), (3, .int 0)]) : W p l e room_1 s m #[Value.ref b] below meth c H locs 22 71035 (lw_Z below #[Value.ref b] s) (F0 m 822 ls []) := by
  obtain ⟨hx, hb, hr, hml, hown, hts, hX, hbl, hlocks, hgv⟩ := id C0
  have hbA : ¬ A b := by rw [hAe]; exact Nat.not_le.mpr hbl
  have hA0 : ∀ q : Nat, s.heap.size ≤ q → A q := fun q h => by rw [hAe]; exact h
  refine lv_aload_n hx hb dL_law_822 rfl (lv_at hl 1 rfl) ?_
  refine lv_aload_n hx hb dL_law_823 rfl (lv_at hl 0 rfl) ?_
  refine lv_iload_n hx hb dL_law_824 rfl (lv_at hl 3 rfl) ?_
  refine lv_iconst (v := 1) hx hb dL_law_825 (by decide) ?_
  refine lv_iadd hx hb dL_law_826 ?_
  refine va_sld hx hb hX hbl hbA hS (l1_vin hL7 (vp_in_iff.mpr (by decide +kernel))) dL_law_827 ?_
  refine lv_topi (fun s1 es1 => ?_)
  refine lv_aload_n hx hb dL_law_828 rfl (lv_at hl 0 rfl) ?_
  refine lv_iload_n hx hb dL_law_829 rfl (lv_at hl 3 rfl) ?_
  refine lv_iconst (v := 2) hx hb dL_law_830 (by decide) ?_
  refine lv_iadd hx hb dL_law_831 ?_
  refine va_sld hx hb hX hbl hbA hS (l1_vin hL7 (vp_in_iff.mpr (by decide +kernel))) dL_law_832 ?_
  refine lv_topi (fun s2 es2 => ?_)
  refine lv_aload_n hx hb dL_law_833 rfl (lv_at hl 0 rfl) ?_
  refine lv_iload_n hx hb dL_law_834 rfl (lv_at hl 3 rfl) ?_
  refine lv_iconst (v := 3) hx hb dL_law_835 (by decide) ?_
  refine lv_iadd hx hb dL_law_836 ?_
  refine va_sld hx hb hX hbl hbA hS (l1_vin hL7 (vp_in_iff.mpr (by decide +kernel))) dL_law_837 ?_
  refine lv_topi (fun s3 es3 => ?_)
  refine lv_i2l hx hb dL_law_838 rfl ?_
  refine lv_bipush (v := 32) hx hb dL_law_839 (by decide) ?_
  refine lv_lshl hx hb dL_law_841 rfl ?_
  refine lv_aload_n hx hb dL_law_842 rfl (lv_at hl 0 rfl) ?_
  refine lv_iload_n hx hb dL_law_843 rfl (lv_at hl 3 rfl) ?_
  refine lv_iconst (v := 4) hx hb dL_law_844 (by decide) ?_
  refine lv_iadd hx hb dL_law_845 ?_
  refine va_sld hx hb hX hbl hbA hS (l1_vin hL7 (vp_in_iff.mpr (by decide +kernel))) dL_law_846 ?_
  refine lv_topi (fun s4 es4 => ?_)
  refine lv_i2l hx hb dL_law_847 rfl ?_
  refine lv_ldc2 (v := 4294967295) hx hb hown (hts (.constantLong R_law 44 4294967295) (by decide +kernel)) dL_law_848 ?_
  refine lv_land hx hb dL_law_851 ?_
  refine lv_lor hx hb dL_law_852 ?_
  refine lv_topl (fun w852 ew852 => ?_)
  have hPc := hP.sub (ws' := [(q0, .inr (4, [.ref x_q7, .int 0, .ref x_q19, .ref x_q30])), (x_q7, .inl (x_k7, 24, .inr (.inr (.inr (.inr (fun _ => none))))))]) [0, 1] rfl
  have hKc := hK.sub (tys' := [(x_k7, .object "PointRings$Curve")]) [0] rfl
  refine vp_callSi (W.runV (As := [.int s1, .int s2, .long w852]) (rest := []) ⟨hx, hb, hml, hown, hts⟩ (ctX5_times_n l N dC dI  q0 x_q7 x_q19 x_q30 x_k7 0 (fun _ => none) s1 s2 w852 (-2) rfl (l1_at N s1)) (cwV 3 hts gL1_X5_times_n rfl rfl rfl (by decide +kernel) ⟨Nat.le_of_ble_eq_true rfl, Nat.le_of_ble_eq_true rfl⟩) ⟨fun a U g mk q => by obtain ⟨q0, qP, qK, qN⟩ := q; exact ⟨q0, qP, va_K.moved (u := U) (U := U.calling g mk a) (Vm.Alike.refl U.vm) qK, nw_same (u := U) (U := U.calling g mk a) rfl qN⟩, va_recv hKc hPc (ci := 4) (q0 := 0) rfl rfl, fun U hU hW => ⟨rfl, by rw [hU]; exact hPc, va_K.moved hW.alike hKc, nw_warm hW hN⟩⟩ rfl rfl hl.1 rfl (lv_room (Nat.le_of_ble_eq_true rfl)) dL_law_853 ⟨by decide +kernel, by decide +kernel⟩) (fun q9 eq9 => ?_)
  subst q9
  refine lv_aload_n hx hb dL_law_856 rfl (lv_at hl 2 rfl) ?_
  refine lv_aload_n hx hb dL_law_857 rfl (lv_at hl 0 rfl) ?_
  refine lv_iload_n hx hb dL_law_858 rfl (lv_at hl 3 rfl) ?_
  refine lv_iconst (v := 1) hx hb dL_law_859 (by decide) ?_
  refine lv_iadd hx hb dL_law_860 ?_
  refine va_sld hx hb hX hbl hbA hS (l1_vin hL7 (vp_in_iff.mpr (by decide +kernel))) dL_law_861 ?_
  rw [← es1]
  refine lv_aload_n hx hb dL_law_862 rfl (lv_at hl 0 rfl) ?_
  refine lv_iload_n hx hb dL_law_863 rfl (lv_at hl 3 rfl) ?_
  refine lv_iconst (v := 2) hx hb dL_law_864 (by decide) ?_
  refine lv_iadd hx hb dL_law_865 ?_
  refine va_sld hx hb hX hbl hbA hS (l1_vin hL7 (vp_in_iff.mpr (by decide +kernel))) dL_law_866 ?_
  rw [← es2]
  refine lv_aload_n hx hb dL_law_867 rfl (lv_at hl 0 rfl) ?_
  refine lv_iload_n hx hb dL_law_868 rfl (lv_at hl 3 rfl) ?_
  refine lv_iconst (v := 3) hx hb dL_law_869 (by decide) ?_
  refine lv_iadd hx hb dL_law_870 ?_
  refine va_sld hx hb hX hbl hbA hS (l1_vin hL7 (vp_in_iff.mpr (by decide +kernel))) dL_law_871 ?_
  rw [← es3]
  refine lv_i2l hx hb dL_law_872 rfl ?_
  refine lv_bipush (v := 32) hx hb dL_law_873 (by decide) ?_
  refine lv_lshl hx hb dL_law_875 rfl ?_
  refine lv_aload_n hx hb dL_law_876 rfl (lv_at hl 0 rfl) ?_
  refine lv_iload_n hx hb dL_law_877 rfl (lv_at hl 3 rfl) ?_
  refine lv_iconst (v := 4) hx hb dL_law_878 (by decide) ?_
  refine lv_iadd hx hb dL_law_879 ?_
  refine va_sld hx hb hX hbl hbA hS (l1_vin hL7 (vp_in_iff.mpr (by decide +kernel))) dL_law_880 ?_
  rw [← es4]
  refine lv_i2l hx hb dL_law_881 rfl ?_
  refine lv_ldc2 (v := 4294967295) hx hb hown (hts (.constantLong R_law 44 4294967295) (by decide +kernel)) dL_law_882 ?_
  refine lv_land hx hb dL_law_885 ?_
  refine lv_lor hx hb dL_law_886 ?_
  refine lv_topl (fun w886 ew886 => ?_)
  have hPc := hP.sub (ws' := [(q8, .inr (5, [.int 0, .int 0, .int 0, .ref y_q8, .ref y_q17, .int 0, .ref y_q26, .int 0, .ref y_q35, .int 0, .ref y_q43, .ref y_q51, .ref y_q59, .ref y_q67, .ref y_q75, .ref y_q83, .ref y_q92, .ref y_q100]))]) [9] rfl
  have hKc := hK.sub (tys' := []) [] rfl
  refine vp_callSi (W.runV (As := [.int s1, .int s2, .long w886]) (rest := [.int (-2)]) ⟨hx, hb, hml, hown, hts⟩ (ctX6_times_n l N dC dI  q8 y_q8 y_q17 y_q26 y_q35 y_q43 y_q51 y_q59 y_q67 y_q75 y_q83 y_q92 y_q100 0 0 0 0 0 0 s1 s2 w886 (-2) rfl (l1_in N s1)) (cwV 3 hts gL1_X6_times_n rfl rfl rfl (by decide +kernel) ⟨Nat.le_of_ble_eq_true rfl, Nat.le_of_ble_eq_true rfl⟩) ⟨fun a U g mk q => by obtain ⟨q0, qP, qK, qN⟩ := q; exact ⟨q0, qP, va_K.moved (u := U) (U := U.calling g mk a) (Vm.Alike.refl U.vm) qK, nw_same (u := U) (U := U.calling g mk a) rfl qN⟩, va_recv hKc hPc (ci := 5) (q0 := 0) rfl rfl, fun U hU hW => ⟨rfl, by rw [hU]; exact hPc, va_K.moved hW.alike hKc, nw_warm hW hN⟩⟩ rfl rfl hl.1 rfl (lv_room (Nat.le_of_ble_eq_true rfl)) dL_law_887 ⟨by decide +kernel, by decide +kernel⟩) (fun q9 eq9 => ?_)
  subst q9
  refine lv_icmp_eq (tgt := 1739) hx hb dL_law_890 (by decide) (fun c107 => ?_) (fun c107 => ?_)
  · exact law1_end hL C0 hAe (by decide +kernel) (by decide +kernel) hS ls (lv_sub hl [0, 3] rfl)
  · exact absurd (rfl : (-2) = ((-2) : Int32)) c107
set_option maxHeartbeats 4000000 in
set_option maxRecDepth 100000 in
theorem law1_c17 {p : Program} {l : Launch} {e : Env} {s : State} {m : MethodId} {below : List Frame} {meth : Method} {c : Code} {b L : Nat} {xs : Nat → Int32} (hL : L ≤ 7) (hL7 : L = 7) (C0 : lw_At p s m meth c b L xs) (N : Nat) (hN1 : 20000 ≤ N) (dC : Nat → ClassId) (dI : Nat → Nat → Nat) (q0 x_q7 x_q19 x_q8_23 x_q30 x_q10_38 x_q8_14_38 x_q17_14_38 x_q22_38 q8 y_q8 y_q17 y_q26 y_q35 y_q43 y_q51 y_q59 y_q67 y_q75 y_q83 y_q92 y_q100 : Nat) (x_k7 x_k8_23 x_k8_14_38 x_k17_14_38 x_k22_38 y_k8 y_k17 y_k26 y_k35 y_k43 y_k51 y_k59 y_k67 y_k75 y_k83 y_k92 y_k100 : ClassId) {A : Nat → Prop} (hAe : A = fun q => s.heap.size ≤ q) (H : Heap) (locs : List Loc) (ls : Array Slot) (hN : nw_all s) (hK : va_K (dC, dI) vwCl [(x_k7, .object "PointRings$Curve"), (x_k8_23, .int), (x_k8_14_38, .int), (x_k17_14_38, .int), (x_k22_38, .int), (y_k8, .int), (y_k17, .int), (y_k26, .int), (y_k35, .int), (y_k43, .int), (y_k51, .int), (y_k59, .int), (y_k67, .int), (y_k75, .int), (y_k83, .int), (y_k92, .boolean), (y_k100, .boolean)] s) (hP : va_P (dC, dI) vwCl [(q0, .inr (4, [.ref x_q7, .int 0, .ref x_q19, .ref x_q30])), (x_q7, .inl (x_k7, 24, .inr (.inr (.inr (.inr (fun _ => none)))))), (x_q19, .inr (1, [.ref x_q8_23, .int 0])), (x_q8_23, .inl (x_k8_23, 10007, .inl (fun _ => 0))), (x_q30, .inr (3, [.ref x_q19, .ref x_q10_38, .ref x_q22_38])), (x_q10_38, .inr (2, [.ref x_q8_14_38, .ref x_q17_14_38, .null, .int 1, .int 0, .int (-1)])), (x_q8_14_38, .inl (x_k8_14_38, 10007, .inl (fun _ => 0))), (x_q17_14_38, .inl (x_k17_14_38, 128, .inl (fun _ => 0))), (x_q22_38, .inl (x_k22_38, 4, .inl (fun _ => 0))), (q8, .inr (5, [.int 0, .int 0, .int 0, .ref y_q8, .ref y_q17, .int 0, .ref y_q26, .int 0, .ref y_q35, .int 0, .ref y_q43, .ref y_q51, .ref y_q59, .ref y_q67, .ref y_q75, .ref y_q83, .ref y_q92, .ref y_q100])), (y_q8, .inl (y_k8, 10008, .inl (fun _ => 0))), (y_q17, .inl (y_k17, 10008, .inl (fun _ => 0))), (y_q26, .inl (y_k26, 10300, .inl (fun _ => 0))), (y_q35, .inl (y_k35, 10008, .inl (fun _ => 0))), (y_q43, .inl (y_k43, 24, .inl (fun _ => 0))), (y_q51, .inl (y_k51, 24, .inl (fun _ => 0))), (y_q59, .inl (y_k59, 24, .inl (fun _ => 0))), (y_q67, .inl (y_k67, 24, .inl (fun _ => 0))), (y_q75, .inl (y_k75, 24, .inl (fun _ => 0))), (y_q83, .inl (y_k83, 24, .inl (fun _ => 0))), (y_q92, .inl (y_k92, 10300, .inl (fun _ => 0))), (y_q100, .inl (y_k100, 64, .inl (fun _ => 0)))] H) (hD : va_D A [(q0, .inr (4, [.ref x_q7, .int 0, .ref x_q19, .ref x_q30])), (x_q7, .inl (x_k7, 24, .inr (.inr (.inr (.inr (fun _ => none)))))), (x_q19, .inr (1, [.ref x_q8_23, .int 0])), (x_q8_23, .inl (x_k8_23, 10007, .inl (fun _ => 0))), (x_q30, .inr (3, [.ref x_q19, .ref x_q10_38, .ref x_q22_38])), (x_q10_38, .inr (2, [.ref x_q8_14_38, .ref x_q17_14_38, .null, .int 1, .int 0, .int (-1)])), (x_q8_14_38, .inl (x_k8_14_38, 10007, .inl (fun _ => 0))), (x_q17_14_38, .inl (x_k17_14_38, 128, .inl (fun _ => 0))), (x_q22_38, .inl (x_k22_38, 4, .inl (fun _ => 0))), (q8, .inr (5, [.int 0, .int 0, .int 0, .ref y_q8, .ref y_q17, .int 0, .ref y_q26, .int 0, .ref y_q35, .int 0, .ref y_q43, .ref y_q51, .ref y_q59, .ref y_q67, .ref y_q75, .ref y_q83, .ref y_q92, .ref y_q100])), (y_q8, .inl (y_k8, 10008, .inl (fun _ => 0))), (y_q17, .inl (y_k17, 10008, .inl (fun _ => 0))), (y_q26, .inl (y_k26, 10300, .inl (fun _ => 0))), (y_q35, .inl (y_k35, 10008, .inl (fun _ => 0))), (y_q43, .inl (y_k43, 24, .inl (fun _ => 0))), (y_q51, .inl (y_k51, 24, .inl (fun _ => 0))), (y_q59, .inl (y_k59, 24, .inl (fun _ => 0))), (y_q67, .inl (y_k67, 24, .inl (fun _ => 0))), (y_q75, .inl (y_k75, 24, .inl (fun _ => 0))), (y_q83, .inl (y_k83, 24, .inl (fun _ => 0))), (y_q92, .inl (y_k92, 10300, .inl (fun _ => 0))), (y_q100, .inl (y_k100, 64, .inl (fun _ => 0)))]) (hS : va_S A s.heap H locs) (hl : lv_has ls 4 [(0, .ref b), (1, .ref q0), (2, .ref q8), (3, .int 0)]) : W p l e room_1 s m #[Value.ref b] below meth c H locs 22 71035 (lw_Z below #[Value.ref b] s) (F0 m 895 ls []) := by
  obtain ⟨hx, hb, hr, hml, hown, hts, hX, hbl, hlocks, hgv⟩ := id C0
  have hbA : ¬ A b := by rw [hAe]; exact Nat.not_le.mpr hbl
  have hA0 : ∀ q : Nat, s.heap.size ≤ q → A q := fun q h => by rw [hAe]; exact h
  refine lv_aload_n hx hb dL_law_895 rfl (lv_at hl 1 rfl) ?_
  refine lv_aload_n hx hb dL_law_896 rfl (lv_at hl 0 rfl) ?_
  refine lv_iload_n hx hb dL_law_897 rfl (lv_at hl 3 rfl) ?_
  refine lv_iconst (v := 1) hx hb dL_law_898 (by decide) ?_
  refine lv_iadd hx hb dL_law_899 ?_
  refine va_sld hx hb hX hbl hbA hS (l1_vin hL7 (vp_in_iff.mpr (by decide +kernel))) dL_law_900 ?_
  refine lv_topi (fun s1 es1 => ?_)
  refine lv_aload_n hx hb dL_law_901 rfl (lv_at hl 0 rfl) ?_
  refine lv_iload_n hx hb dL_law_902 rfl (lv_at hl 3 rfl) ?_
  refine lv_iconst (v := 2) hx hb dL_law_903 (by decide) ?_
  refine lv_iadd hx hb dL_law_904 ?_
  refine va_sld hx hb hX hbl hbA hS (l1_vin hL7 (vp_in_iff.mpr (by decide +kernel))) dL_law_905 ?_
  refine lv_topi (fun s2 es2 => ?_)
  refine lv_aload_n hx hb dL_law_906 rfl (lv_at hl 0 rfl) ?_
  refine lv_iload_n hx hb dL_law_907 rfl (lv_at hl 3 rfl) ?_
  refine lv_iconst (v := 3) hx hb dL_law_908 (by decide) ?_
  refine lv_iadd hx hb dL_law_909 ?_
  refine va_sld hx hb hX hbl hbA hS (l1_vin hL7 (vp_in_iff.mpr (by decide +kernel))) dL_law_910 ?_
  refine lv_topi (fun s3 es3 => ?_)
  refine lv_i2l hx hb dL_law_911 rfl ?_
  refine lv_bipush (v := 32) hx hb dL_law_912 (by decide) ?_
  refine lv_lshl hx hb dL_law_914 rfl ?_
  refine lv_aload_n hx hb dL_law_915 rfl (lv_at hl 0 rfl) ?_
  refine lv_iload_n hx hb dL_law_916 rfl (lv_at hl 3 rfl) ?_
  refine lv_iconst (v := 4) hx hb dL_law_917 (by decide) ?_
  refine lv_iadd hx hb dL_law_918 ?_
  refine va_sld hx hb hX hbl hbA hS (l1_vin hL7 (vp_in_iff.mpr (by decide +kernel))) dL_law_919 ?_
  refine lv_topi (fun s4 es4 => ?_)
  refine lv_i2l hx hb dL_law_920 rfl ?_
  refine lv_ldc2 (v := 4294967295) hx hb hown (hts (.constantLong R_law 44 4294967295) (by decide +kernel)) dL_law_921 ?_
  refine lv_land hx hb dL_law_924 ?_
  refine lv_lor hx hb dL_law_925 ?_
  refine lv_topl (fun w925 ew925 => ?_)
  have hPc := hP.sub (ws' := [(q0, .inr (4, [.ref x_q7, .int 0, .ref x_q19, .ref x_q30])), (x_q7, .inl (x_k7, 24, .inr (.inr (.inr (.inr (fun _ => none))))))]) [0, 1] rfl
  have hKc := hK.sub (tys' := [(x_k7, .object "PointRings$Curve")]) [0] rfl
  refine vp_callSi (W.runV (As := [.int s1, .int s2, .long w925]) (rest := []) ⟨hx, hb, hml, hown, hts⟩ (ctX5_alone_n l N dC dI  q0 x_q7 x_q19 x_q30 x_k7 0 (fun _ => none) s1 s2 w925 (-2) rfl (l1_at N s1)) (cwV 3 hts gL1_X5_alone_n rfl rfl rfl (by decide +kernel) ⟨Nat.le_of_ble_eq_true rfl, Nat.le_of_ble_eq_true rfl⟩) ⟨fun a U g mk q => by obtain ⟨q0, qP, qK, qN⟩ := q; exact ⟨q0, qP, va_K.moved (u := U) (U := U.calling g mk a) (Vm.Alike.refl U.vm) qK, nw_same (u := U) (U := U.calling g mk a) rfl qN⟩, va_recv hKc hPc (ci := 4) (q0 := 0) rfl rfl, fun U hU hW => ⟨rfl, by rw [hU]; exact hPc, va_K.moved hW.alike hKc, nw_warm hW hN⟩⟩ rfl rfl hl.1 rfl (lv_room (Nat.le_of_ble_eq_true rfl)) dL_law_926 ⟨by decide +kernel, by decide +kernel⟩) (fun q9 eq9 => ?_)
  subst q9
  refine lv_aload_n hx hb dL_law_929 rfl (lv_at hl 2 rfl) ?_
  refine lv_aload_n hx hb dL_law_930 rfl (lv_at hl 0 rfl) ?_
  refine lv_iload_n hx hb dL_law_931 rfl (lv_at hl 3 rfl) ?_
  refine lv_iconst (v := 1) hx hb dL_law_932 (by decide) ?_
  refine lv_iadd hx hb dL_law_933 ?_
  refine va_sld hx hb hX hbl hbA hS (l1_vin hL7 (vp_in_iff.mpr (by decide +kernel))) dL_law_934 ?_
  rw [← es1]
  refine lv_aload_n hx hb dL_law_935 rfl (lv_at hl 0 rfl) ?_
  refine lv_iload_n hx hb dL_law_936 rfl (lv_at hl 3 rfl) ?_
  refine lv_iconst (v := 2) hx hb dL_law_937 (by decide) ?_
  refine lv_iadd hx hb dL_law_938 ?_
  refine va_sld hx hb hX hbl hbA hS (l1_vin hL7 (vp_in_iff.mpr (by decide +kernel))) dL_law_939 ?_
  rw [← es2]
  refine lv_aload_n hx hb dL_law_940 rfl (lv_at hl 0 rfl) ?_
  refine lv_iload_n hx hb dL_law_941 rfl (lv_at hl 3 rfl) ?_
  refine lv_iconst (v := 3) hx hb dL_law_942 (by decide) ?_
  refine lv_iadd hx hb dL_law_943 ?_
  refine va_sld hx hb hX hbl hbA hS (l1_vin hL7 (vp_in_iff.mpr (by decide +kernel))) dL_law_944 ?_
  rw [← es3]
  refine lv_i2l hx hb dL_law_945 rfl ?_
  refine lv_bipush (v := 32) hx hb dL_law_946 (by decide) ?_
  refine lv_lshl hx hb dL_law_948 rfl ?_
  refine lv_aload_n hx hb dL_law_949 rfl (lv_at hl 0 rfl) ?_
  refine lv_iload_n hx hb dL_law_950 rfl (lv_at hl 3 rfl) ?_
  refine lv_iconst (v := 4) hx hb dL_law_951 (by decide) ?_
  refine lv_iadd hx hb dL_law_952 ?_
  refine va_sld hx hb hX hbl hbA hS (l1_vin hL7 (vp_in_iff.mpr (by decide +kernel))) dL_law_953 ?_
  rw [← es4]
  refine lv_i2l hx hb dL_law_954 rfl ?_
  refine lv_ldc2 (v := 4294967295) hx hb hown (hts (.constantLong R_law 44 4294967295) (by decide +kernel)) dL_law_955 ?_
  refine lv_land hx hb dL_law_958 ?_
  refine lv_lor hx hb dL_law_959 ?_
  refine lv_topl (fun w959 ew959 => ?_)
  have hPc := hP.sub (ws' := [(q8, .inr (5, [.int 0, .int 0, .int 0, .ref y_q8, .ref y_q17, .int 0, .ref y_q26, .int 0, .ref y_q35, .int 0, .ref y_q43, .ref y_q51, .ref y_q59, .ref y_q67, .ref y_q75, .ref y_q83, .ref y_q92, .ref y_q100]))]) [9] rfl
  have hKc := hK.sub (tys' := []) [] rfl
  refine vp_callSi (W.runV (As := [.int s1, .int s2, .long w959]) (rest := [.int (-2)]) ⟨hx, hb, hml, hown, hts⟩ (ctX6_alone_n l N dC dI  q8 y_q8 y_q17 y_q26 y_q35 y_q43 y_q51 y_q59 y_q67 y_q75 y_q83 y_q92 y_q100 0 0 0 0 0 0 s1 s2 w959 (-2) rfl (l1_in N s1)) (cwV 3 hts gL1_X6_alone_n rfl rfl rfl (by decide +kernel) ⟨Nat.le_of_ble_eq_true rfl, Nat.le_of_ble_eq_true rfl⟩) ⟨fun a U g mk q => by obtain ⟨q0, qP, qK, qN⟩ := q; exact ⟨q0, qP, va_K.moved (u := U) (U := U.calling g mk a) (Vm.Alike.refl U.vm) qK, nw_same (u := U) (U := U.calling g mk a) rfl qN⟩, va_recv hKc hPc (ci := 5) (q0 := 0) rfl rfl, fun U hU hW => ⟨rfl, by rw [hU]; exact hPc, va_K.moved hW.alike hKc, nw_warm hW hN⟩⟩ rfl rfl hl.1 rfl (lv_room (Nat.le_of_ble_eq_true rfl)) dL_law_960 ⟨by decide +kernel, by decide +kernel⟩) (fun q9 eq9 => ?_)
  subst q9
  refine lv_icmp_eq (tgt := 1739) hx hb dL_law_963 (by decide) (fun c110 => ?_) (fun c110 => ?_)
  · exact law1_end hL C0 hAe (by decide +kernel) (by decide +kernel) hS ls (lv_sub hl [0, 3] rfl)
  · exact absurd (rfl : (-2) = ((-2) : Int32)) c110
set_option maxHeartbeats 4000000 in
set_option maxRecDepth 100000 in
theorem law1_c18 {p : Program} {l : Launch} {e : Env} {s : State} {m : MethodId} {below : List Frame} {meth : Method} {c : Code} {b L : Nat} {xs : Nat → Int32} (hL : L ≤ 7) (hL7 : L = 7) (C0 : lw_At p s m meth c b L xs) (N : Nat) (hN1 : 20000 ≤ N) (dC : Nat → ClassId) (dI : Nat → Nat → Nat) (q0 x_q7 x_q19 x_q8_23 x_q30 x_q10_38 x_q8_14_38 x_q17_14_38 x_q22_38 q8 y_q8 y_q17 y_q26 y_q35 y_q43 y_q51 y_q59 y_q67 y_q75 y_q83 y_q92 y_q100 : Nat) (x_k7 x_k8_23 x_k8_14_38 x_k17_14_38 x_k22_38 y_k8 y_k17 y_k26 y_k35 y_k43 y_k51 y_k59 y_k67 y_k75 y_k83 y_k92 y_k100 : ClassId) {A : Nat → Prop} (hAe : A = fun q => s.heap.size ≤ q) (H : Heap) (locs : List Loc) (ls : Array Slot) (hN : nw_all s) (hK : va_K (dC, dI) vwCl [(x_k7, .object "PointRings$Curve"), (x_k8_23, .int), (x_k8_14_38, .int), (x_k17_14_38, .int), (x_k22_38, .int), (y_k8, .int), (y_k17, .int), (y_k26, .int), (y_k35, .int), (y_k43, .int), (y_k51, .int), (y_k59, .int), (y_k67, .int), (y_k75, .int), (y_k83, .int), (y_k92, .boolean), (y_k100, .boolean)] s) (hP : va_P (dC, dI) vwCl [(q0, .inr (4, [.ref x_q7, .int 0, .ref x_q19, .ref x_q30])), (x_q7, .inl (x_k7, 24, .inr (.inr (.inr (.inr (fun _ => none)))))), (x_q19, .inr (1, [.ref x_q8_23, .int 0])), (x_q8_23, .inl (x_k8_23, 10007, .inl (fun _ => 0))), (x_q30, .inr (3, [.ref x_q19, .ref x_q10_38, .ref x_q22_38])), (x_q10_38, .inr (2, [.ref x_q8_14_38, .ref x_q17_14_38, .null, .int 1, .int 0, .int (-1)])), (x_q8_14_38, .inl (x_k8_14_38, 10007, .inl (fun _ => 0))), (x_q17_14_38, .inl (x_k17_14_38, 128, .inl (fun _ => 0))), (x_q22_38, .inl (x_k22_38, 4, .inl (fun _ => 0))), (q8, .inr (5, [.int 0, .int 0, .int 0, .ref y_q8, .ref y_q17, .int 0, .ref y_q26, .int 0, .ref y_q35, .int 0, .ref y_q43, .ref y_q51, .ref y_q59, .ref y_q67, .ref y_q75, .ref y_q83, .ref y_q92, .ref y_q100])), (y_q8, .inl (y_k8, 10008, .inl (fun _ => 0))), (y_q17, .inl (y_k17, 10008, .inl (fun _ => 0))), (y_q26, .inl (y_k26, 10300, .inl (fun _ => 0))), (y_q35, .inl (y_k35, 10008, .inl (fun _ => 0))), (y_q43, .inl (y_k43, 24, .inl (fun _ => 0))), (y_q51, .inl (y_k51, 24, .inl (fun _ => 0))), (y_q59, .inl (y_k59, 24, .inl (fun _ => 0))), (y_q67, .inl (y_k67, 24, .inl (fun _ => 0))), (y_q75, .inl (y_k75, 24, .inl (fun _ => 0))), (y_q83, .inl (y_k83, 24, .inl (fun _ => 0))), (y_q92, .inl (y_k92, 10300, .inl (fun _ => 0))), (y_q100, .inl (y_k100, 64, .inl (fun _ => 0)))] H) (hD : va_D A [(q0, .inr (4, [.ref x_q7, .int 0, .ref x_q19, .ref x_q30])), (x_q7, .inl (x_k7, 24, .inr (.inr (.inr (.inr (fun _ => none)))))), (x_q19, .inr (1, [.ref x_q8_23, .int 0])), (x_q8_23, .inl (x_k8_23, 10007, .inl (fun _ => 0))), (x_q30, .inr (3, [.ref x_q19, .ref x_q10_38, .ref x_q22_38])), (x_q10_38, .inr (2, [.ref x_q8_14_38, .ref x_q17_14_38, .null, .int 1, .int 0, .int (-1)])), (x_q8_14_38, .inl (x_k8_14_38, 10007, .inl (fun _ => 0))), (x_q17_14_38, .inl (x_k17_14_38, 128, .inl (fun _ => 0))), (x_q22_38, .inl (x_k22_38, 4, .inl (fun _ => 0))), (q8, .inr (5, [.int 0, .int 0, .int 0, .ref y_q8, .ref y_q17, .int 0, .ref y_q26, .int 0, .ref y_q35, .int 0, .ref y_q43, .ref y_q51, .ref y_q59, .ref y_q67, .ref y_q75, .ref y_q83, .ref y_q92, .ref y_q100])), (y_q8, .inl (y_k8, 10008, .inl (fun _ => 0))), (y_q17, .inl (y_k17, 10008, .inl (fun _ => 0))), (y_q26, .inl (y_k26, 10300, .inl (fun _ => 0))), (y_q35, .inl (y_k35, 10008, .inl (fun _ => 0))), (y_q43, .inl (y_k43, 24, .inl (fun _ => 0))), (y_q51, .inl (y_k51, 24, .inl (fun _ => 0))), (y_q59, .inl (y_k59, 24, .inl (fun _ => 0))), (y_q67, .inl (y_k67, 24, .inl (fun _ => 0))), (y_q75, .inl (y_k75, 24, .inl (fun _ => 0))), (y_q83, .inl (y_k83, 24, .inl (fun _ => 0))), (y_q92, .inl (y_k92, 10300, .inl (fun _ => 0))), (y_q100, .inl (y_k100, 64, .inl (fun _ => 0)))]) (hS : va_S A s.heap H locs) (hl : lv_has ls 4 [(0, .ref b), (1, .ref q0), (2, .ref q8), (3, .int 0)]) : W p l e room_1 s m #[Value.ref b] below meth c H locs 22 71035 (lw_Z below #[Value.ref b] s) (F0 m 968 ls []) := by
  obtain ⟨hx, hb, hr, hml, hown, hts, hX, hbl, hlocks, hgv⟩ := id C0
  have hbA : ¬ A b := by rw [hAe]; exact Nat.not_le.mpr hbl
  have hA0 : ∀ q : Nat, s.heap.size ≤ q → A q := fun q h => by rw [hAe]; exact h
  refine lv_aload_n hx hb dL_law_968 rfl (lv_at hl 1 rfl) ?_
  refine lv_aload_n hx hb dL_law_969 rfl (lv_at hl 0 rfl) ?_
  refine lv_iload_n hx hb dL_law_970 rfl (lv_at hl 3 rfl) ?_
  refine lv_iconst (v := 1) hx hb dL_law_971 (by decide) ?_
  refine lv_iadd hx hb dL_law_972 ?_
  refine va_sld hx hb hX hbl hbA hS (l1_vin hL7 (vp_in_iff.mpr (by decide +kernel))) dL_law_973 ?_
  refine lv_topi (fun s1 es1 => ?_)
  have hPc := hP.sub (ws' := [(q0, .inr (4, [.ref x_q7, .int 0, .ref x_q19, .ref x_q30])), (x_q7, .inl (x_k7, 24, .inr (.inr (.inr (.inr (fun _ => none))))))]) [0, 1] rfl
  have hKc := hK.sub (tys' := [(x_k7, .object "PointRings$Curve")]) [0] rfl
  refine vp_callSi (W.runV (As := [.int s1]) (rest := []) ⟨hx, hb, hml, hown, hts⟩ (ctX5_count_n l N dC dI  q0 x_q7 x_q19 x_q30 x_k7 0 (fun _ => none) s1 (-2) rfl (l1_at N s1)) (cwV 1 hts gL1_X5_count_n rfl rfl rfl (by decide +kernel) ⟨Nat.le_of_ble_eq_true rfl, Nat.le_of_ble_eq_true rfl⟩) ⟨fun a U g mk q => by obtain ⟨q0, qP, qK, qN⟩ := q; exact ⟨q0, qP, va_K.moved (u := U) (U := U.calling g mk a) (Vm.Alike.refl U.vm) qK, nw_same (u := U) (U := U.calling g mk a) rfl qN⟩, va_recv hKc hPc (ci := 4) (q0 := 0) rfl rfl, fun U hU hW => ⟨rfl, by rw [hU]; exact hPc, va_K.moved hW.alike hKc, nw_warm hW hN⟩⟩ rfl rfl hl.1 rfl (lv_room (Nat.le_of_ble_eq_true rfl)) dL_law_974 ⟨by decide +kernel, by decide +kernel⟩) (fun q9 eq9 => ?_)
  subst q9
  refine lv_aload_n hx hb dL_law_977 rfl (lv_at hl 2 rfl) ?_
  refine lv_aload_n hx hb dL_law_978 rfl (lv_at hl 0 rfl) ?_
  refine lv_iload_n hx hb dL_law_979 rfl (lv_at hl 3 rfl) ?_
  refine lv_iconst (v := 1) hx hb dL_law_980 (by decide) ?_
  refine lv_iadd hx hb dL_law_981 ?_
  refine va_sld hx hb hX hbl hbA hS (l1_vin hL7 (vp_in_iff.mpr (by decide +kernel))) dL_law_982 ?_
  rw [← es1]
  have hPc := hP.sub (ws' := [(q8, .inr (5, [.int 0, .int 0, .int 0, .ref y_q8, .ref y_q17, .int 0, .ref y_q26, .int 0, .ref y_q35, .int 0, .ref y_q43, .ref y_q51, .ref y_q59, .ref y_q67, .ref y_q75, .ref y_q83, .ref y_q92, .ref y_q100]))]) [9] rfl
  have hKc := hK.sub (tys' := []) [] rfl
  refine vp_callSi (W.runV (As := [.int s1]) (rest := [.int (-2)]) ⟨hx, hb, hml, hown, hts⟩ (ctX6_count_n l N dC dI  q8 y_q8 y_q17 y_q26 y_q35 y_q43 y_q51 y_q59 y_q67 y_q75 y_q83 y_q92 y_q100 0 0 0 0 0 0 s1 (-2) rfl (l1_in N s1)) (cwV 1 hts gL1_X6_count_n rfl rfl rfl (by decide +kernel) ⟨Nat.le_of_ble_eq_true rfl, Nat.le_of_ble_eq_true rfl⟩) ⟨fun a U g mk q => by obtain ⟨q0, qP, qK, qN⟩ := q; exact ⟨q0, qP, va_K.moved (u := U) (U := U.calling g mk a) (Vm.Alike.refl U.vm) qK, nw_same (u := U) (U := U.calling g mk a) rfl qN⟩, va_recv hKc hPc (ci := 5) (q0 := 0) rfl rfl, fun U hU hW => ⟨rfl, by rw [hU]; exact hPc, va_K.moved hW.alike hKc, nw_warm hW hN⟩⟩ rfl rfl hl.1 rfl (lv_room (Nat.le_of_ble_eq_true rfl)) dL_law_983 ⟨by decide +kernel, by decide +kernel⟩) (fun q9 eq9 => ?_)
  subst q9
  refine lv_icmp_eq (tgt := 1739) hx hb dL_law_986 (by decide) (fun c113 => ?_) (fun c113 => ?_)
  · exact law1_end hL C0 hAe (by decide +kernel) (by decide +kernel) hS ls (lv_sub hl [0, 3] rfl)
  · exact absurd (rfl : (-2) = ((-2) : Int32)) c113
set_option maxHeartbeats 4000000 in
set_option maxRecDepth 100000 in
theorem law1_c19 {p : Program} {l : Launch} {e : Env} {s : State} {m : MethodId} {below : List Frame} {meth : Method} {c : Code} {b L : Nat} {xs : Nat → Int32} (hL : L ≤ 7) (hL7 : L = 7) (C0 : lw_At p s m meth c b L xs) (N : Nat) (hN1 : 20000 ≤ N) (dC : Nat → ClassId) (dI : Nat → Nat → Nat) (q0 x_q7 x_q19 x_q8_23 x_q30 x_q10_38 x_q8_14_38 x_q17_14_38 x_q22_38 q8 y_q8 y_q17 y_q26 y_q35 y_q43 y_q51 y_q59 y_q67 y_q75 y_q83 y_q92 y_q100 : Nat) (x_k7 x_k8_23 x_k8_14_38 x_k17_14_38 x_k22_38 y_k8 y_k17 y_k26 y_k35 y_k43 y_k51 y_k59 y_k67 y_k75 y_k83 y_k92 y_k100 : ClassId) {A : Nat → Prop} (hAe : A = fun q => s.heap.size ≤ q) (H : Heap) (locs : List Loc) (ls : Array Slot) (hN : nw_all s) (hK : va_K (dC, dI) vwCl [(x_k7, .object "PointRings$Curve"), (x_k8_23, .int), (x_k8_14_38, .int), (x_k17_14_38, .int), (x_k22_38, .int), (y_k8, .int), (y_k17, .int), (y_k26, .int), (y_k35, .int), (y_k43, .int), (y_k51, .int), (y_k59, .int), (y_k67, .int), (y_k75, .int), (y_k83, .int), (y_k92, .boolean), (y_k100, .boolean)] s) (hP : va_P (dC, dI) vwCl [(q0, .inr (4, [.ref x_q7, .int 0, .ref x_q19, .ref x_q30])), (x_q7, .inl (x_k7, 24, .inr (.inr (.inr (.inr (fun _ => none)))))), (x_q19, .inr (1, [.ref x_q8_23, .int 0])), (x_q8_23, .inl (x_k8_23, 10007, .inl (fun _ => 0))), (x_q30, .inr (3, [.ref x_q19, .ref x_q10_38, .ref x_q22_38])), (x_q10_38, .inr (2, [.ref x_q8_14_38, .ref x_q17_14_38, .null, .int 1, .int 0, .int (-1)])), (x_q8_14_38, .inl (x_k8_14_38, 10007, .inl (fun _ => 0))), (x_q17_14_38, .inl (x_k17_14_38, 128, .inl (fun _ => 0))), (x_q22_38, .inl (x_k22_38, 4, .inl (fun _ => 0))), (q8, .inr (5, [.int 0, .int 0, .int 0, .ref y_q8, .ref y_q17, .int 0, .ref y_q26, .int 0, .ref y_q35, .int 0, .ref y_q43, .ref y_q51, .ref y_q59, .ref y_q67, .ref y_q75, .ref y_q83, .ref y_q92, .ref y_q100])), (y_q8, .inl (y_k8, 10008, .inl (fun _ => 0))), (y_q17, .inl (y_k17, 10008, .inl (fun _ => 0))), (y_q26, .inl (y_k26, 10300, .inl (fun _ => 0))), (y_q35, .inl (y_k35, 10008, .inl (fun _ => 0))), (y_q43, .inl (y_k43, 24, .inl (fun _ => 0))), (y_q51, .inl (y_k51, 24, .inl (fun _ => 0))), (y_q59, .inl (y_k59, 24, .inl (fun _ => 0))), (y_q67, .inl (y_k67, 24, .inl (fun _ => 0))), (y_q75, .inl (y_k75, 24, .inl (fun _ => 0))), (y_q83, .inl (y_k83, 24, .inl (fun _ => 0))), (y_q92, .inl (y_k92, 10300, .inl (fun _ => 0))), (y_q100, .inl (y_k100, 64, .inl (fun _ => 0)))] H) (hD : va_D A [(q0, .inr (4, [.ref x_q7, .int 0, .ref x_q19, .ref x_q30])), (x_q7, .inl (x_k7, 24, .inr (.inr (.inr (.inr (fun _ => none)))))), (x_q19, .inr (1, [.ref x_q8_23, .int 0])), (x_q8_23, .inl (x_k8_23, 10007, .inl (fun _ => 0))), (x_q30, .inr (3, [.ref x_q19, .ref x_q10_38, .ref x_q22_38])), (x_q10_38, .inr (2, [.ref x_q8_14_38, .ref x_q17_14_38, .null, .int 1, .int 0, .int (-1)])), (x_q8_14_38, .inl (x_k8_14_38, 10007, .inl (fun _ => 0))), (x_q17_14_38, .inl (x_k17_14_38, 128, .inl (fun _ => 0))), (x_q22_38, .inl (x_k22_38, 4, .inl (fun _ => 0))), (q8, .inr (5, [.int 0, .int 0, .int 0, .ref y_q8, .ref y_q17, .int 0, .ref y_q26, .int 0, .ref y_q35, .int 0, .ref y_q43, .ref y_q51, .ref y_q59, .ref y_q67, .ref y_q75, .ref y_q83, .ref y_q92, .ref y_q100])), (y_q8, .inl (y_k8, 10008, .inl (fun _ => 0))), (y_q17, .inl (y_k17, 10008, .inl (fun _ => 0))), (y_q26, .inl (y_k26, 10300, .inl (fun _ => 0))), (y_q35, .inl (y_k35, 10008, .inl (fun _ => 0))), (y_q43, .inl (y_k43, 24, .inl (fun _ => 0))), (y_q51, .inl (y_k51, 24, .inl (fun _ => 0))), (y_q59, .inl (y_k59, 24, .inl (fun _ => 0))), (y_q67, .inl (y_k67, 24, .inl (fun _ => 0))), (y_q75, .inl (y_k75, 24, .inl (fun _ => 0))), (y_q83, .inl (y_k83, 24, .inl (fun _ => 0))), (y_q92, .inl (y_k92, 10300, .inl (fun _ => 0))), (y_q100, .inl (y_k100, 64, .inl (fun _ => 0)))]) (hS : va_S A s.heap H locs) (hl : lv_has ls 4 [(0, .ref b), (1, .ref q0), (2, .ref q8), (3, .int 0)]) : W p l e room_1 s m #[Value.ref b] below meth c H locs 22 71035 (lw_Z below #[Value.ref b] s) (F0 m 991 ls []) := by
  obtain ⟨hx, hb, hr, hml, hown, hts, hX, hbl, hlocks, hgv⟩ := id C0
  have hbA : ¬ A b := by rw [hAe]; exact Nat.not_le.mpr hbl
  have hA0 : ∀ q : Nat, s.heap.size ≤ q → A q := fun q h => by rw [hAe]; exact h
  refine lv_aload_n hx hb dL_law_991 rfl (lv_at hl 1 rfl) ?_
  refine lv_aload_n hx hb dL_law_992 rfl (lv_at hl 0 rfl) ?_
  refine lv_iload_n hx hb dL_law_993 rfl (lv_at hl 3 rfl) ?_
  refine lv_iconst (v := 1) hx hb dL_law_994 (by decide) ?_
  refine lv_iadd hx hb dL_law_995 ?_
  refine va_sld hx hb hX hbl hbA hS (l1_vin hL7 (vp_in_iff.mpr (by decide +kernel))) dL_law_996 ?_
  refine lv_topi (fun s1 es1 => ?_)
  refine lv_aload_n hx hb dL_law_997 rfl (lv_at hl 0 rfl) ?_
  refine lv_iload_n hx hb dL_law_998 rfl (lv_at hl 3 rfl) ?_
  refine lv_iconst (v := 2) hx hb dL_law_999 (by decide) ?_
  refine lv_iadd hx hb dL_law_1000 ?_
  refine va_sld hx hb hX hbl hbA hS (l1_vin hL7 (vp_in_iff.mpr (by decide +kernel))) dL_law_1001 ?_
  refine lv_topi (fun s2 es2 => ?_)
  have hPc := hP.sub (ws' := [(q0, .inr (4, [.ref x_q7, .int 0, .ref x_q19, .ref x_q30])), (x_q7, .inl (x_k7, 24, .inr (.inr (.inr (.inr (fun _ => none))))))]) [0, 1] rfl
  have hKc := hK.sub (tys' := [(x_k7, .object "PointRings$Curve")]) [0] rfl
  refine vp_callSl (W.runV (As := [.int s1, .int s2]) (rest := []) ⟨hx, hb, hml, hown, hts⟩ (ctX5_countOver_n l N dC dI  q0 x_q7 x_q19 x_q30 x_k7 0 (fun _ => none) s1 s2 (-2) rfl (l1_at N s1)) (cwV 2 hts gL1_X5_countOver_n rfl rfl rfl (by decide +kernel) ⟨Nat.le_of_ble_eq_true rfl, Nat.le_of_ble_eq_true rfl⟩) ⟨fun a U g mk q => by obtain ⟨q0, qP, qK, qN⟩ := q; exact ⟨q0, qP, va_K.moved (u := U) (U := U.calling g mk a) (Vm.Alike.refl U.vm) qK, nw_same (u := U) (U := U.calling g mk a) rfl qN⟩, va_recv hKc hPc (ci := 4) (q0 := 0) rfl rfl, fun U hU hW => ⟨rfl, by rw [hU]; exact hPc, va_K.moved hW.alike hKc, nw_warm hW hN⟩⟩ rfl rfl hl.1 rfl (lv_room (Nat.le_of_ble_eq_true rfl)) dL_law_1002 ⟨by decide +kernel, by decide +kernel⟩) (fun q9 eq9 => ?_)
  subst q9
  refine lv_aload_n hx hb dL_law_1005 rfl (lv_at hl 2 rfl) ?_
  refine lv_aload_n hx hb dL_law_1006 rfl (lv_at hl 0 rfl) ?_
  refine lv_iload_n hx hb dL_law_1007 rfl (lv_at hl 3 rfl) ?_
  refine lv_iconst (v := 1) hx hb dL_law_1008 (by decide) ?_
  refine lv_iadd hx hb dL_law_1009 ?_
  refine va_sld hx hb hX hbl hbA hS (l1_vin hL7 (vp_in_iff.mpr (by decide +kernel))) dL_law_1010 ?_
  rw [← es1]
  refine lv_aload_n hx hb dL_law_1011 rfl (lv_at hl 0 rfl) ?_
  refine lv_iload_n hx hb dL_law_1012 rfl (lv_at hl 3 rfl) ?_
  refine lv_iconst (v := 2) hx hb dL_law_1013 (by decide) ?_
  refine lv_iadd hx hb dL_law_1014 ?_
  refine va_sld hx hb hX hbl hbA hS (l1_vin hL7 (vp_in_iff.mpr (by decide +kernel))) dL_law_1015 ?_
  rw [← es2]
  have hPc := hP.sub (ws' := [(q8, .inr (5, [.int 0, .int 0, .int 0, .ref y_q8, .ref y_q17, .int 0, .ref y_q26, .int 0, .ref y_q35, .int 0, .ref y_q43, .ref y_q51, .ref y_q59, .ref y_q67, .ref y_q75, .ref y_q83, .ref y_q92, .ref y_q100]))]) [9] rfl
  have hKc := hK.sub (tys' := []) [] rfl
  refine vp_callSl (W.runV (As := [.int s1, .int s2]) (rest := [.long (-2)]) ⟨hx, hb, hml, hown, hts⟩ (ctX6_countOver_n l N dC dI  q8 y_q8 y_q17 y_q26 y_q35 y_q43 y_q51 y_q59 y_q67 y_q75 y_q83 y_q92 y_q100 0 0 0 0 0 0 s1 s2 (-2) rfl (l1_in N s1)) (cwV 2 hts gL1_X6_countOver_n rfl rfl rfl (by decide +kernel) ⟨Nat.le_of_ble_eq_true rfl, Nat.le_of_ble_eq_true rfl⟩) ⟨fun a U g mk q => by obtain ⟨q0, qP, qK, qN⟩ := q; exact ⟨q0, qP, va_K.moved (u := U) (U := U.calling g mk a) (Vm.Alike.refl U.vm) qK, nw_same (u := U) (U := U.calling g mk a) rfl qN⟩, va_recv hKc hPc (ci := 5) (q0 := 0) rfl rfl, fun U hU hW => ⟨rfl, by rw [hU]; exact hPc, va_K.moved hW.alike hKc, nw_warm hW hN⟩⟩ rfl rfl hl.1 rfl (lv_room (Nat.le_of_ble_eq_true rfl)) dL_law_1016 ⟨by decide +kernel, by decide +kernel⟩) (fun q9 eq9 => ?_)
  subst q9
  refine W.lcmp hx hb dL_law_1019 ?_
  refine lv_if_eq (tgt := 1739) hx hb dL_law_1020 (by decide) (fun c116 => ?_) (fun c116 => ?_)
  · exact law1_end hL C0 hAe (by decide +kernel) (by decide +kernel) hS ls (lv_sub hl [0, 3] rfl)
  · exact absurd (by decide) c116
set_option maxHeartbeats 4000000 in
set_option maxRecDepth 100000 in
theorem law1_c20 {p : Program} {l : Launch} {e : Env} {s : State} {m : MethodId} {below : List Frame} {meth : Method} {c : Code} {b L : Nat} {xs : Nat → Int32} (hL : L ≤ 7) (hL7 : L = 7) (C0 : lw_At p s m meth c b L xs) (N : Nat) (hN1 : 20000 ≤ N) (dC : Nat → ClassId) (dI : Nat → Nat → Nat) (q0 x_q7 x_q19 x_q8_23 x_q30 x_q10_38 x_q8_14_38 x_q17_14_38 x_q22_38 q8 y_q8 y_q17 y_q26 y_q35 y_q43 y_q51 y_q59 y_q67 y_q75 y_q83 y_q92 y_q100 : Nat) (x_k7 x_k8_23 x_k8_14_38 x_k17_14_38 x_k22_38 y_k8 y_k17 y_k26 y_k35 y_k43 y_k51 y_k59 y_k67 y_k75 y_k83 y_k92 y_k100 : ClassId) {A : Nat → Prop} (hAe : A = fun q => s.heap.size ≤ q) (H : Heap) (locs : List Loc) (ls : Array Slot) (hN : nw_all s) (hK : va_K (dC, dI) vwCl [(x_k7, .object "PointRings$Curve"), (x_k8_23, .int), (x_k8_14_38, .int), (x_k17_14_38, .int), (x_k22_38, .int), (y_k8, .int), (y_k17, .int), (y_k26, .int), (y_k35, .int), (y_k43, .int), (y_k51, .int), (y_k59, .int), (y_k67, .int), (y_k75, .int), (y_k83, .int), (y_k92, .boolean), (y_k100, .boolean)] s) (hP : va_P (dC, dI) vwCl [(q0, .inr (4, [.ref x_q7, .int 0, .ref x_q19, .ref x_q30])), (x_q7, .inl (x_k7, 24, .inr (.inr (.inr (.inr (fun _ => none)))))), (x_q19, .inr (1, [.ref x_q8_23, .int 0])), (x_q8_23, .inl (x_k8_23, 10007, .inl (fun _ => 0))), (x_q30, .inr (3, [.ref x_q19, .ref x_q10_38, .ref x_q22_38])), (x_q10_38, .inr (2, [.ref x_q8_14_38, .ref x_q17_14_38, .null, .int 1, .int 0, .int (-1)])), (x_q8_14_38, .inl (x_k8_14_38, 10007, .inl (fun _ => 0))), (x_q17_14_38, .inl (x_k17_14_38, 128, .inl (fun _ => 0))), (x_q22_38, .inl (x_k22_38, 4, .inl (fun _ => 0))), (q8, .inr (5, [.int 0, .int 0, .int 0, .ref y_q8, .ref y_q17, .int 0, .ref y_q26, .int 0, .ref y_q35, .int 0, .ref y_q43, .ref y_q51, .ref y_q59, .ref y_q67, .ref y_q75, .ref y_q83, .ref y_q92, .ref y_q100])), (y_q8, .inl (y_k8, 10008, .inl (fun _ => 0))), (y_q17, .inl (y_k17, 10008, .inl (fun _ => 0))), (y_q26, .inl (y_k26, 10300, .inl (fun _ => 0))), (y_q35, .inl (y_k35, 10008, .inl (fun _ => 0))), (y_q43, .inl (y_k43, 24, .inl (fun _ => 0))), (y_q51, .inl (y_k51, 24, .inl (fun _ => 0))), (y_q59, .inl (y_k59, 24, .inl (fun _ => 0))), (y_q67, .inl (y_k67, 24, .inl (fun _ => 0))), (y_q75, .inl (y_k75, 24, .inl (fun _ => 0))), (y_q83, .inl (y_k83, 24, .inl (fun _ => 0))), (y_q92, .inl (y_k92, 10300, .inl (fun _ => 0))), (y_q100, .inl (y_k100, 64, .inl (fun _ => 0)))] H) (hD : va_D A [(q0, .inr (4, [.ref x_q7, .int 0, .ref x_q19, .ref x_q30])), (x_q7, .inl (x_k7, 24, .inr (.inr (.inr (.inr (fun _ => none)))))), (x_q19, .inr (1, [.ref x_q8_23, .int 0])), (x_q8_23, .inl (x_k8_23, 10007, .inl (fun _ => 0))), (x_q30, .inr (3, [.ref x_q19, .ref x_q10_38, .ref x_q22_38])), (x_q10_38, .inr (2, [.ref x_q8_14_38, .ref x_q17_14_38, .null, .int 1, .int 0, .int (-1)])), (x_q8_14_38, .inl (x_k8_14_38, 10007, .inl (fun _ => 0))), (x_q17_14_38, .inl (x_k17_14_38, 128, .inl (fun _ => 0))), (x_q22_38, .inl (x_k22_38, 4, .inl (fun _ => 0))), (q8, .inr (5, [.int 0, .int 0, .int 0, .ref y_q8, .ref y_q17, .int 0, .ref y_q26, .int 0, .ref y_q35, .int 0, .ref y_q43, .ref y_q51, .ref y_q59, .ref y_q67, .ref y_q75, .ref y_q83, .ref y_q92, .ref y_q100])), (y_q8, .inl (y_k8, 10008, .inl (fun _ => 0))), (y_q17, .inl (y_k17, 10008, .inl (fun _ => 0))), (y_q26, .inl (y_k26, 10300, .inl (fun _ => 0))), (y_q35, .inl (y_k35, 10008, .inl (fun _ => 0))), (y_q43, .inl (y_k43, 24, .inl (fun _ => 0))), (y_q51, .inl (y_k51, 24, .inl (fun _ => 0))), (y_q59, .inl (y_k59, 24, .inl (fun _ => 0))), (y_q67, .inl (y_k67, 24, .inl (fun _ => 0))), (y_q75, .inl (y_k75, 24, .inl (fun _ => 0))), (y_q83, .inl (y_k83, 24, .inl (fun _ => 0))), (y_q92, .inl (y_k92, 10300, .inl (fun _ => 0))), (y_q100, .inl (y_k100, 64, .inl (fun _ => 0)))]) (hS : va_S A s.heap H locs) (hl : lv_has ls 4 [(0, .ref b), (1, .ref q0), (2, .ref q8), (3, .int 0)]) : W p l e room_1 s m #[Value.ref b] below meth c H locs 22 71035 (lw_Z below #[Value.ref b] s) (F0 m 1025 ls []) := by
  obtain ⟨hx, hb, hr, hml, hown, hts, hX, hbl, hlocks, hgv⟩ := id C0
  have hbA : ¬ A b := by rw [hAe]; exact Nat.not_le.mpr hbl
  have hA0 : ∀ q : Nat, s.heap.size ≤ q → A q := fun q h => by rw [hAe]; exact h
  refine lv_aload_n hx hb dL_law_1025 rfl (lv_at hl 1 rfl) ?_
  refine lv_aload_n hx hb dL_law_1026 rfl (lv_at hl 0 rfl) ?_
  refine lv_iload_n hx hb dL_law_1027 rfl (lv_at hl 3 rfl) ?_
  refine lv_iconst (v := 1) hx hb dL_law_1028 (by decide) ?_
  refine lv_iadd hx hb dL_law_1029 ?_
  refine va_sld hx hb hX hbl hbA hS (l1_vin hL7 (vp_in_iff.mpr (by decide +kernel))) dL_law_1030 ?_
  refine lv_topi (fun s1 es1 => ?_)
  refine lv_aload_n hx hb dL_law_1031 rfl (lv_at hl 0 rfl) ?_
  refine lv_iload_n hx hb dL_law_1032 rfl (lv_at hl 3 rfl) ?_
  refine lv_iconst (v := 2) hx hb dL_law_1033 (by decide) ?_
  refine lv_iadd hx hb dL_law_1034 ?_
  refine va_sld hx hb hX hbl hbA hS (l1_vin hL7 (vp_in_iff.mpr (by decide +kernel))) dL_law_1035 ?_
  refine lv_topi (fun s2 es2 => ?_)
  have hPc := hP.sub (ws' := [(q0, .inr (4, [.ref x_q7, .int 0, .ref x_q19, .ref x_q30])), (x_q7, .inl (x_k7, 24, .inr (.inr (.inr (.inr (fun _ => none))))))]) [0, 1] rfl
  have hKc := hK.sub (tys' := [(x_k7, .object "PointRings$Curve")]) [0] rfl
  refine vp_callSi (W.runV (As := [.int s1, .int s2]) (rest := []) ⟨hx, hb, hml, hown, hts⟩ (ctX5_bound_n l N dC dI  q0 x_q7 x_q19 x_q30 x_k7 0 (fun _ => none) s1 s2 (-2) rfl (l1_at N s1)) (cwV 2 hts gL1_X5_bound_n rfl rfl rfl (by decide +kernel) ⟨Nat.le_of_ble_eq_true rfl, Nat.le_of_ble_eq_true rfl⟩) ⟨fun a U g mk q => by obtain ⟨q0, qP, qK, qN⟩ := q; exact ⟨q0, qP, va_K.moved (u := U) (U := U.calling g mk a) (Vm.Alike.refl U.vm) qK, nw_same (u := U) (U := U.calling g mk a) rfl qN⟩, va_recv hKc hPc (ci := 4) (q0 := 0) rfl rfl, fun U hU hW => ⟨rfl, by rw [hU]; exact hPc, va_K.moved hW.alike hKc, nw_warm hW hN⟩⟩ rfl rfl hl.1 rfl (lv_room (Nat.le_of_ble_eq_true rfl)) dL_law_1036 ⟨by decide +kernel, by decide +kernel⟩) (fun q9 eq9 => ?_)
  subst q9
  refine lv_aload_n hx hb dL_law_1039 rfl (lv_at hl 2 rfl) ?_
  refine lv_aload_n hx hb dL_law_1040 rfl (lv_at hl 0 rfl) ?_
  refine lv_iload_n hx hb dL_law_1041 rfl (lv_at hl 3 rfl) ?_
  refine lv_iconst (v := 1) hx hb dL_law_1042 (by decide) ?_
  refine lv_iadd hx hb dL_law_1043 ?_
  refine va_sld hx hb hX hbl hbA hS (l1_vin hL7 (vp_in_iff.mpr (by decide +kernel))) dL_law_1044 ?_
  rw [← es1]
  refine lv_aload_n hx hb dL_law_1045 rfl (lv_at hl 0 rfl) ?_
  refine lv_iload_n hx hb dL_law_1046 rfl (lv_at hl 3 rfl) ?_
  refine lv_iconst (v := 2) hx hb dL_law_1047 (by decide) ?_
  refine lv_iadd hx hb dL_law_1048 ?_
  refine va_sld hx hb hX hbl hbA hS (l1_vin hL7 (vp_in_iff.mpr (by decide +kernel))) dL_law_1049 ?_
  rw [← es2]
  have hPc := hP.sub (ws' := [(q8, .inr (5, [.int 0, .int 0, .int 0, .ref y_q8, .ref y_q17, .int 0, .ref y_q26, .int 0, .ref y_q35, .int 0, .ref y_q43, .ref y_q51, .ref y_q59, .ref y_q67, .ref y_q75, .ref y_q83, .ref y_q92, .ref y_q100]))]) [9] rfl
  have hKc := hK.sub (tys' := []) [] rfl
  refine vp_callSi (W.runV (As := [.int s1, .int s2]) (rest := [.int (-2)]) ⟨hx, hb, hml, hown, hts⟩ (ctX6_bound_n l N dC dI  q8 y_q8 y_q17 y_q26 y_q35 y_q43 y_q51 y_q59 y_q67 y_q75 y_q83 y_q92 y_q100 0 0 0 0 0 0 s1 s2 (-2) rfl (l1_in N s1)) (cwV 2 hts gL1_X6_bound_n rfl rfl rfl (by decide +kernel) ⟨Nat.le_of_ble_eq_true rfl, Nat.le_of_ble_eq_true rfl⟩) ⟨fun a U g mk q => by obtain ⟨q0, qP, qK, qN⟩ := q; exact ⟨q0, qP, va_K.moved (u := U) (U := U.calling g mk a) (Vm.Alike.refl U.vm) qK, nw_same (u := U) (U := U.calling g mk a) rfl qN⟩, va_recv hKc hPc (ci := 5) (q0 := 0) rfl rfl, fun U hU hW => ⟨rfl, by rw [hU]; exact hPc, va_K.moved hW.alike hKc, nw_warm hW hN⟩⟩ rfl rfl hl.1 rfl (lv_room (Nat.le_of_ble_eq_true rfl)) dL_law_1050 ⟨by decide +kernel, by decide +kernel⟩) (fun q9 eq9 => ?_)
  subst q9
  refine lv_icmp_eq (tgt := 1739) hx hb dL_law_1053 (by decide) (fun c119 => ?_) (fun c119 => ?_)
  · exact law1_end hL C0 hAe (by decide +kernel) (by decide +kernel) hS ls (lv_sub hl [0, 3] rfl)
  · exact absurd (rfl : (-2) = ((-2) : Int32)) c119
set_option maxHeartbeats 4000000 in
set_option maxRecDepth 100000 in
theorem law1_c21 {p : Program} {l : Launch} {e : Env} {s : State} {m : MethodId} {below : List Frame} {meth : Method} {c : Code} {b L : Nat} {xs : Nat → Int32} (hL : L ≤ 7) (hL7 : L = 7) (C0 : lw_At p s m meth c b L xs) (N : Nat) (hN1 : 20000 ≤ N) (dC : Nat → ClassId) (dI : Nat → Nat → Nat) (q0 x_q7 x_q19 x_q8_23 x_q30 x_q10_38 x_q8_14_38 x_q17_14_38 x_q22_38 q8 y_q8 y_q17 y_q26 y_q35 y_q43 y_q51 y_q59 y_q67 y_q75 y_q83 y_q92 y_q100 : Nat) (x_k7 x_k8_23 x_k8_14_38 x_k17_14_38 x_k22_38 y_k8 y_k17 y_k26 y_k35 y_k43 y_k51 y_k59 y_k67 y_k75 y_k83 y_k92 y_k100 : ClassId) {A : Nat → Prop} (hAe : A = fun q => s.heap.size ≤ q) (H : Heap) (locs : List Loc) (ls : Array Slot) (hN : nw_all s) (hK : va_K (dC, dI) vwCl [(x_k7, .object "PointRings$Curve"), (x_k8_23, .int), (x_k8_14_38, .int), (x_k17_14_38, .int), (x_k22_38, .int), (y_k8, .int), (y_k17, .int), (y_k26, .int), (y_k35, .int), (y_k43, .int), (y_k51, .int), (y_k59, .int), (y_k67, .int), (y_k75, .int), (y_k83, .int), (y_k92, .boolean), (y_k100, .boolean)] s) (hP : va_P (dC, dI) vwCl [(q0, .inr (4, [.ref x_q7, .int 0, .ref x_q19, .ref x_q30])), (x_q7, .inl (x_k7, 24, .inr (.inr (.inr (.inr (fun _ => none)))))), (x_q19, .inr (1, [.ref x_q8_23, .int 0])), (x_q8_23, .inl (x_k8_23, 10007, .inl (fun _ => 0))), (x_q30, .inr (3, [.ref x_q19, .ref x_q10_38, .ref x_q22_38])), (x_q10_38, .inr (2, [.ref x_q8_14_38, .ref x_q17_14_38, .null, .int 1, .int 0, .int (-1)])), (x_q8_14_38, .inl (x_k8_14_38, 10007, .inl (fun _ => 0))), (x_q17_14_38, .inl (x_k17_14_38, 128, .inl (fun _ => 0))), (x_q22_38, .inl (x_k22_38, 4, .inl (fun _ => 0))), (q8, .inr (5, [.int 0, .int 0, .int 0, .ref y_q8, .ref y_q17, .int 0, .ref y_q26, .int 0, .ref y_q35, .int 0, .ref y_q43, .ref y_q51, .ref y_q59, .ref y_q67, .ref y_q75, .ref y_q83, .ref y_q92, .ref y_q100])), (y_q8, .inl (y_k8, 10008, .inl (fun _ => 0))), (y_q17, .inl (y_k17, 10008, .inl (fun _ => 0))), (y_q26, .inl (y_k26, 10300, .inl (fun _ => 0))), (y_q35, .inl (y_k35, 10008, .inl (fun _ => 0))), (y_q43, .inl (y_k43, 24, .inl (fun _ => 0))), (y_q51, .inl (y_k51, 24, .inl (fun _ => 0))), (y_q59, .inl (y_k59, 24, .inl (fun _ => 0))), (y_q67, .inl (y_k67, 24, .inl (fun _ => 0))), (y_q75, .inl (y_k75, 24, .inl (fun _ => 0))), (y_q83, .inl (y_k83, 24, .inl (fun _ => 0))), (y_q92, .inl (y_k92, 10300, .inl (fun _ => 0))), (y_q100, .inl (y_k100, 64, .inl (fun _ => 0)))] H) (hD : va_D A [(q0, .inr (4, [.ref x_q7, .int 0, .ref x_q19, .ref x_q30])), (x_q7, .inl (x_k7, 24, .inr (.inr (.inr (.inr (fun _ => none)))))), (x_q19, .inr (1, [.ref x_q8_23, .int 0])), (x_q8_23, .inl (x_k8_23, 10007, .inl (fun _ => 0))), (x_q30, .inr (3, [.ref x_q19, .ref x_q10_38, .ref x_q22_38])), (x_q10_38, .inr (2, [.ref x_q8_14_38, .ref x_q17_14_38, .null, .int 1, .int 0, .int (-1)])), (x_q8_14_38, .inl (x_k8_14_38, 10007, .inl (fun _ => 0))), (x_q17_14_38, .inl (x_k17_14_38, 128, .inl (fun _ => 0))), (x_q22_38, .inl (x_k22_38, 4, .inl (fun _ => 0))), (q8, .inr (5, [.int 0, .int 0, .int 0, .ref y_q8, .ref y_q17, .int 0, .ref y_q26, .int 0, .ref y_q35, .int 0, .ref y_q43, .ref y_q51, .ref y_q59, .ref y_q67, .ref y_q75, .ref y_q83, .ref y_q92, .ref y_q100])), (y_q8, .inl (y_k8, 10008, .inl (fun _ => 0))), (y_q17, .inl (y_k17, 10008, .inl (fun _ => 0))), (y_q26, .inl (y_k26, 10300, .inl (fun _ => 0))), (y_q35, .inl (y_k35, 10008, .inl (fun _ => 0))), (y_q43, .inl (y_k43, 24, .inl (fun _ => 0))), (y_q51, .inl (y_k51, 24, .inl (fun _ => 0))), (y_q59, .inl (y_k59, 24, .inl (fun _ => 0))), (y_q67, .inl (y_k67, 24, .inl (fun _ => 0))), (y_q75, .inl (y_k75, 24, .inl (fun _ => 0))), (y_q83, .inl (y_k83, 24, .inl (fun _ => 0))), (y_q92, .inl (y_k92, 10300, .inl (fun _ => 0))), (y_q100, .inl (y_k100, 64, .inl (fun _ => 0)))]) (hS : va_S A s.heap H locs) (hl : lv_has ls 4 [(0, .ref b), (1, .ref q0), (2, .ref q8), (3, .int 0)]) : W p l e room_1 s m #[Value.ref b] below meth c H locs 22 71035 (lw_Z below #[Value.ref b] s) (F0 m 1058 ls []) := by
  obtain ⟨hx, hb, hr, hml, hown, hts, hX, hbl, hlocks, hgv⟩ := id C0
  have hbA : ¬ A b := by rw [hAe]; exact Nat.not_le.mpr hbl
  have hA0 : ∀ q : Nat, s.heap.size ≤ q → A q := fun q h => by rw [hAe]; exact h
  refine lv_aload_n hx hb dL_law_1058 rfl (lv_at hl 1 rfl) ?_
  refine lv_aload_n hx hb dL_law_1059 rfl (lv_at hl 0 rfl) ?_
  refine lv_iload_n hx hb dL_law_1060 rfl (lv_at hl 3 rfl) ?_
  refine lv_iconst (v := 1) hx hb dL_law_1061 (by decide) ?_
  refine lv_iadd hx hb dL_law_1062 ?_
  refine va_sld hx hb hX hbl hbA hS (l1_vin hL7 (vp_in_iff.mpr (by decide +kernel))) dL_law_1063 ?_
  refine lv_topi (fun s1 es1 => ?_)
  refine lv_aload_n hx hb dL_law_1064 rfl (lv_at hl 0 rfl) ?_
  refine lv_iload_n hx hb dL_law_1065 rfl (lv_at hl 3 rfl) ?_
  refine lv_iconst (v := 2) hx hb dL_law_1066 (by decide) ?_
  refine lv_iadd hx hb dL_law_1067 ?_
  refine va_sld hx hb hX hbl hbA hS (l1_vin hL7 (vp_in_iff.mpr (by decide +kernel))) dL_law_1068 ?_
  refine lv_topi (fun s2 es2 => ?_)
  have hPc := hP.sub (ws' := [(q0, .inr (4, [.ref x_q7, .int 0, .ref x_q19, .ref x_q30])), (x_q7, .inl (x_k7, 24, .inr (.inr (.inr (.inr (fun _ => none))))))]) [0, 1] rfl
  have hKc := hK.sub (tys' := [(x_k7, .object "PointRings$Curve")]) [0] rfl
  refine vp_callSi (W.runV (As := [.int s1, .int s2]) (rest := []) ⟨hx, hb, hml, hown, hts⟩ (ctX5_proof_n l N dC dI  q0 x_q7 x_q19 x_q30 x_k7 0 (fun _ => none) s1 s2 (-2) rfl (l1_at N s1)) (cwV 2 hts gL1_X5_proof_n rfl rfl rfl (by decide +kernel) ⟨Nat.le_of_ble_eq_true rfl, Nat.le_of_ble_eq_true rfl⟩) ⟨fun a U g mk q => by obtain ⟨q0, qP, qK, qN⟩ := q; exact ⟨q0, qP, va_K.moved (u := U) (U := U.calling g mk a) (Vm.Alike.refl U.vm) qK, nw_same (u := U) (U := U.calling g mk a) rfl qN⟩, va_recv hKc hPc (ci := 4) (q0 := 0) rfl rfl, fun U hU hW => ⟨rfl, by rw [hU]; exact hPc, va_K.moved hW.alike hKc, nw_warm hW hN⟩⟩ rfl rfl hl.1 rfl (lv_room (Nat.le_of_ble_eq_true rfl)) dL_law_1069 ⟨by decide +kernel, by decide +kernel⟩) (fun q9 eq9 => ?_)
  subst q9
  refine lv_aload_n hx hb dL_law_1072 rfl (lv_at hl 2 rfl) ?_
  refine lv_aload_n hx hb dL_law_1073 rfl (lv_at hl 0 rfl) ?_
  refine lv_iload_n hx hb dL_law_1074 rfl (lv_at hl 3 rfl) ?_
  refine lv_iconst (v := 1) hx hb dL_law_1075 (by decide) ?_
  refine lv_iadd hx hb dL_law_1076 ?_
  refine va_sld hx hb hX hbl hbA hS (l1_vin hL7 (vp_in_iff.mpr (by decide +kernel))) dL_law_1077 ?_
  rw [← es1]
  refine lv_aload_n hx hb dL_law_1078 rfl (lv_at hl 0 rfl) ?_
  refine lv_iload_n hx hb dL_law_1079 rfl (lv_at hl 3 rfl) ?_
  refine lv_iconst (v := 2) hx hb dL_law_1080 (by decide) ?_
  refine lv_iadd hx hb dL_law_1081 ?_
  refine va_sld hx hb hX hbl hbA hS (l1_vin hL7 (vp_in_iff.mpr (by decide +kernel))) dL_law_1082 ?_
  rw [← es2]
  have hPc := hP.sub (ws' := [(q8, .inr (5, [.int 0, .int 0, .int 0, .ref y_q8, .ref y_q17, .int 0, .ref y_q26, .int 0, .ref y_q35, .int 0, .ref y_q43, .ref y_q51, .ref y_q59, .ref y_q67, .ref y_q75, .ref y_q83, .ref y_q92, .ref y_q100]))]) [9] rfl
  have hKc := hK.sub (tys' := []) [] rfl
  refine vp_callSi (W.runV (As := [.int s1, .int s2]) (rest := [.int (-2)]) ⟨hx, hb, hml, hown, hts⟩ (ctX6_proof_n l N dC dI  q8 y_q8 y_q17 y_q26 y_q35 y_q43 y_q51 y_q59 y_q67 y_q75 y_q83 y_q92 y_q100 0 0 0 0 0 0 s1 s2 (-2) rfl (l1_in N s1)) (cwV 2 hts gL1_X6_proof_n rfl rfl rfl (by decide +kernel) ⟨Nat.le_of_ble_eq_true rfl, Nat.le_of_ble_eq_true rfl⟩) ⟨fun a U g mk q => by obtain ⟨q0, qP, qK, qN⟩ := q; exact ⟨q0, qP, va_K.moved (u := U) (U := U.calling g mk a) (Vm.Alike.refl U.vm) qK, nw_same (u := U) (U := U.calling g mk a) rfl qN⟩, va_recv hKc hPc (ci := 5) (q0 := 0) rfl rfl, fun U hU hW => ⟨rfl, by rw [hU]; exact hPc, va_K.moved hW.alike hKc, nw_warm hW hN⟩⟩ rfl rfl hl.1 rfl (lv_room (Nat.le_of_ble_eq_true rfl)) dL_law_1083 ⟨by decide +kernel, by decide +kernel⟩) (fun q9 eq9 => ?_)
  subst q9
  refine lv_icmp_eq (tgt := 1739) hx hb dL_law_1086 (by decide) (fun c122 => ?_) (fun c122 => ?_)
  · exact law1_end hL C0 hAe (by decide +kernel) (by decide +kernel) hS ls (lv_sub hl [0, 3] rfl)
  · exact absurd (rfl : (-2) = ((-2) : Int32)) c122
set_option maxHeartbeats 4000000 in
set_option maxRecDepth 100000 in
theorem law1_c22 {p : Program} {l : Launch} {e : Env} {s : State} {m : MethodId} {below : List Frame} {meth : Method} {c : Code} {b L : Nat} {xs : Nat → Int32} (hL : L ≤ 7) (hL7 : L = 7) (C0 : lw_At p s m meth c b L xs) (N : Nat) (hN1 : 20000 ≤ N) (dC : Nat → ClassId) (dI : Nat → Nat → Nat) (q0 x_q7 x_q19 x_q8_23 x_q30 x_q10_38 x_q8_14_38 x_q17_14_38 x_q22_38 q8 y_q8 y_q17 y_q26 y_q35 y_q43 y_q51 y_q59 y_q67 y_q75 y_q83 y_q92 y_q100 : Nat) (x_k7 x_k8_23 x_k8_14_38 x_k17_14_38 x_k22_38 y_k8 y_k17 y_k26 y_k35 y_k43 y_k51 y_k59 y_k67 y_k75 y_k83 y_k92 y_k100 : ClassId) {A : Nat → Prop} (hAe : A = fun q => s.heap.size ≤ q) (H : Heap) (locs : List Loc) (ls : Array Slot) (hN : nw_all s) (hK : va_K (dC, dI) vwCl [(x_k7, .object "PointRings$Curve"), (x_k8_23, .int), (x_k8_14_38, .int), (x_k17_14_38, .int), (x_k22_38, .int), (y_k8, .int), (y_k17, .int), (y_k26, .int), (y_k35, .int), (y_k43, .int), (y_k51, .int), (y_k59, .int), (y_k67, .int), (y_k75, .int), (y_k83, .int), (y_k92, .boolean), (y_k100, .boolean)] s) (hP : va_P (dC, dI) vwCl [(q0, .inr (4, [.ref x_q7, .int 0, .ref x_q19, .ref x_q30])), (x_q7, .inl (x_k7, 24, .inr (.inr (.inr (.inr (fun _ => none)))))), (x_q19, .inr (1, [.ref x_q8_23, .int 0])), (x_q8_23, .inl (x_k8_23, 10007, .inl (fun _ => 0))), (x_q30, .inr (3, [.ref x_q19, .ref x_q10_38, .ref x_q22_38])), (x_q10_38, .inr (2, [.ref x_q8_14_38, .ref x_q17_14_38, .null, .int 1, .int 0, .int (-1)])), (x_q8_14_38, .inl (x_k8_14_38, 10007, .inl (fun _ => 0))), (x_q17_14_38, .inl (x_k17_14_38, 128, .inl (fun _ => 0))), (x_q22_38, .inl (x_k22_38, 4, .inl (fun _ => 0))), (q8, .inr (5, [.int 0, .int 0, .int 0, .ref y_q8, .ref y_q17, .int 0, .ref y_q26, .int 0, .ref y_q35, .int 0, .ref y_q43, .ref y_q51, .ref y_q59, .ref y_q67, .ref y_q75, .ref y_q83, .ref y_q92, .ref y_q100])), (y_q8, .inl (y_k8, 10008, .inl (fun _ => 0))), (y_q17, .inl (y_k17, 10008, .inl (fun _ => 0))), (y_q26, .inl (y_k26, 10300, .inl (fun _ => 0))), (y_q35, .inl (y_k35, 10008, .inl (fun _ => 0))), (y_q43, .inl (y_k43, 24, .inl (fun _ => 0))), (y_q51, .inl (y_k51, 24, .inl (fun _ => 0))), (y_q59, .inl (y_k59, 24, .inl (fun _ => 0))), (y_q67, .inl (y_k67, 24, .inl (fun _ => 0))), (y_q75, .inl (y_k75, 24, .inl (fun _ => 0))), (y_q83, .inl (y_k83, 24, .inl (fun _ => 0))), (y_q92, .inl (y_k92, 10300, .inl (fun _ => 0))), (y_q100, .inl (y_k100, 64, .inl (fun _ => 0)))] H) (hD : va_D A [(q0, .inr (4, [.ref x_q7, .int 0, .ref x_q19, .ref x_q30])), (x_q7, .inl (x_k7, 24, .inr (.inr (.inr (.inr (fun _ => none)))))), (x_q19, .inr (1, [.ref x_q8_23, .int 0])), (x_q8_23, .inl (x_k8_23, 10007, .inl (fun _ => 0))), (x_q30, .inr (3, [.ref x_q19, .ref x_q10_38, .ref x_q22_38])), (x_q10_38, .inr (2, [.ref x_q8_14_38, .ref x_q17_14_38, .null, .int 1, .int 0, .int (-1)])), (x_q8_14_38, .inl (x_k8_14_38, 10007, .inl (fun _ => 0))), (x_q17_14_38, .inl (x_k17_14_38, 128, .inl (fun _ => 0))), (x_q22_38, .inl (x_k22_38, 4, .inl (fun _ => 0))), (q8, .inr (5, [.int 0, .int 0, .int 0, .ref y_q8, .ref y_q17, .int 0, .ref y_q26, .int 0, .ref y_q35, .int 0, .ref y_q43, .ref y_q51, .ref y_q59, .ref y_q67, .ref y_q75, .ref y_q83, .ref y_q92, .ref y_q100])), (y_q8, .inl (y_k8, 10008, .inl (fun _ => 0))), (y_q17, .inl (y_k17, 10008, .inl (fun _ => 0))), (y_q26, .inl (y_k26, 10300, .inl (fun _ => 0))), (y_q35, .inl (y_k35, 10008, .inl (fun _ => 0))), (y_q43, .inl (y_k43, 24, .inl (fun _ => 0))), (y_q51, .inl (y_k51, 24, .inl (fun _ => 0))), (y_q59, .inl (y_k59, 24, .inl (fun _ => 0))), (y_q67, .inl (y_k67, 24, .inl (fun _ => 0))), (y_q75, .inl (y_k75, 24, .inl (fun _ => 0))), (y_q83, .inl (y_k83, 24, .inl (fun _ => 0))), (y_q92, .inl (y_k92, 10300, .inl (fun _ => 0))), (y_q100, .inl (y_k100, 64, .inl (fun _ => 0)))]) (hS : va_S A s.heap H locs) (hl : lv_has ls 4 [(0, .ref b), (1, .ref q0), (2, .ref q8), (3, .int 0)]) : W p l e room_1 s m #[Value.ref b] below meth c H locs 22 71035 (lw_Z below #[Value.ref b] s) (F0 m 1091 ls []) := by
  obtain ⟨hx, hb, hr, hml, hown, hts, hX, hbl, hlocks, hgv⟩ := id C0
  have hbA : ¬ A b := by rw [hAe]; exact Nat.not_le.mpr hbl
  have hA0 : ∀ q : Nat, s.heap.size ≤ q → A q := fun q h => by rw [hAe]; exact h
  refine lv_aload_n hx hb dL_law_1091 rfl (lv_at hl 1 rfl) ?_
  refine lv_aload_n hx hb dL_law_1092 rfl (lv_at hl 0 rfl) ?_
  refine lv_iload_n hx hb dL_law_1093 rfl (lv_at hl 3 rfl) ?_
  refine lv_iconst (v := 1) hx hb dL_law_1094 (by decide) ?_
  refine lv_iadd hx hb dL_law_1095 ?_
  refine va_sld hx hb hX hbl hbA hS (l1_vin hL7 (vp_in_iff.mpr (by decide +kernel))) dL_law_1096 ?_
  refine lv_topi (fun s1 es1 => ?_)
  have hPc := hP.sub (ws' := [(q0, .inr (4, [.ref x_q7, .int 0, .ref x_q19, .ref x_q30])), (x_q7, .inl (x_k7, 24, .inr (.inr (.inr (.inr (fun _ => none))))))]) [0, 1] rfl
  have hKc := hK.sub (tys' := [(x_k7, .object "PointRings$Curve")]) [0] rfl
  refine vp_callSi (W.runV (As := [.int s1]) (rest := []) ⟨hx, hb, hml, hown, hts⟩ (ctX5_supersingular_n l N dC dI  q0 x_q7 x_q19 x_q30 x_k7 0 (fun _ => none) s1 (-2) rfl (l1_at N s1)) (cwV 1 hts gL1_X5_supersingular_n rfl rfl rfl (by decide +kernel) ⟨Nat.le_of_ble_eq_true rfl, Nat.le_of_ble_eq_true rfl⟩) ⟨fun a U g mk q => by obtain ⟨q0, qP, qK, qN⟩ := q; exact ⟨q0, qP, va_K.moved (u := U) (U := U.calling g mk a) (Vm.Alike.refl U.vm) qK, nw_same (u := U) (U := U.calling g mk a) rfl qN⟩, va_recv hKc hPc (ci := 4) (q0 := 0) rfl rfl, fun U hU hW => ⟨rfl, by rw [hU]; exact hPc, va_K.moved hW.alike hKc, nw_warm hW hN⟩⟩ rfl rfl hl.1 rfl (lv_room (Nat.le_of_ble_eq_true rfl)) dL_law_1097 ⟨by decide +kernel, by decide +kernel⟩) (fun q9 eq9 => ?_)
  subst q9
  refine lv_aload_n hx hb dL_law_1100 rfl (lv_at hl 2 rfl) ?_
  refine lv_aload_n hx hb dL_law_1101 rfl (lv_at hl 0 rfl) ?_
  refine lv_iload_n hx hb dL_law_1102 rfl (lv_at hl 3 rfl) ?_
  refine lv_iconst (v := 1) hx hb dL_law_1103 (by decide) ?_
  refine lv_iadd hx hb dL_law_1104 ?_
  refine va_sld hx hb hX hbl hbA hS (l1_vin hL7 (vp_in_iff.mpr (by decide +kernel))) dL_law_1105 ?_
  rw [← es1]
  have hPc := hP.sub (ws' := [(q8, .inr (5, [.int 0, .int 0, .int 0, .ref y_q8, .ref y_q17, .int 0, .ref y_q26, .int 0, .ref y_q35, .int 0, .ref y_q43, .ref y_q51, .ref y_q59, .ref y_q67, .ref y_q75, .ref y_q83, .ref y_q92, .ref y_q100]))]) [9] rfl
  have hKc := hK.sub (tys' := []) [] rfl
  refine vp_callSi (W.runV (As := [.int s1]) (rest := [.int (-2)]) ⟨hx, hb, hml, hown, hts⟩ (ctX6_supersingular_n l N dC dI  q8 y_q8 y_q17 y_q26 y_q35 y_q43 y_q51 y_q59 y_q67 y_q75 y_q83 y_q92 y_q100 0 0 0 0 0 0 s1 (-2) rfl (l1_in N s1)) (cwV 1 hts gL1_X6_supersingular_n rfl rfl rfl (by decide +kernel) ⟨Nat.le_of_ble_eq_true rfl, Nat.le_of_ble_eq_true rfl⟩) ⟨fun a U g mk q => by obtain ⟨q0, qP, qK, qN⟩ := q; exact ⟨q0, qP, va_K.moved (u := U) (U := U.calling g mk a) (Vm.Alike.refl U.vm) qK, nw_same (u := U) (U := U.calling g mk a) rfl qN⟩, va_recv hKc hPc (ci := 5) (q0 := 0) rfl rfl, fun U hU hW => ⟨rfl, by rw [hU]; exact hPc, va_K.moved hW.alike hKc, nw_warm hW hN⟩⟩ rfl rfl hl.1 rfl (lv_room (Nat.le_of_ble_eq_true rfl)) dL_law_1106 ⟨by decide +kernel, by decide +kernel⟩) (fun q9 eq9 => ?_)
  subst q9
  refine lv_icmp_eq (tgt := 1739) hx hb dL_law_1109 (by decide) (fun c125 => ?_) (fun c125 => ?_)
  · exact law1_end hL C0 hAe (by decide +kernel) (by decide +kernel) hS ls (lv_sub hl [0, 3] rfl)
  · exact absurd (rfl : (-2) = ((-2) : Int32)) c125
set_option maxHeartbeats 4000000 in
set_option maxRecDepth 100000 in
theorem law1_c23 {p : Program} {l : Launch} {e : Env} {s : State} {m : MethodId} {below : List Frame} {meth : Method} {c : Code} {b L : Nat} {xs : Nat → Int32} (hL : L ≤ 7) (hL7 : L = 7) (C0 : lw_At p s m meth c b L xs) (N : Nat) (hN1 : 20000 ≤ N) (dC : Nat → ClassId) (dI : Nat → Nat → Nat) (q0 x_q7 x_q19 x_q8_23 x_q30 x_q10_38 x_q8_14_38 x_q17_14_38 x_q22_38 q8 y_q8 y_q17 y_q26 y_q35 y_q43 y_q51 y_q59 y_q67 y_q75 y_q83 y_q92 y_q100 : Nat) (x_k7 x_k8_23 x_k8_14_38 x_k17_14_38 x_k22_38 y_k8 y_k17 y_k26 y_k35 y_k43 y_k51 y_k59 y_k67 y_k75 y_k83 y_k92 y_k100 : ClassId) {A : Nat → Prop} (hAe : A = fun q => s.heap.size ≤ q) (H : Heap) (locs : List Loc) (ls : Array Slot) (hN : nw_all s) (hK : va_K (dC, dI) vwCl [(x_k7, .object "PointRings$Curve"), (x_k8_23, .int), (x_k8_14_38, .int), (x_k17_14_38, .int), (x_k22_38, .int), (y_k8, .int), (y_k17, .int), (y_k26, .int), (y_k35, .int), (y_k43, .int), (y_k51, .int), (y_k59, .int), (y_k67, .int), (y_k75, .int), (y_k83, .int), (y_k92, .boolean), (y_k100, .boolean)] s) (hP : va_P (dC, dI) vwCl [(q0, .inr (4, [.ref x_q7, .int 0, .ref x_q19, .ref x_q30])), (x_q7, .inl (x_k7, 24, .inr (.inr (.inr (.inr (fun _ => none)))))), (x_q19, .inr (1, [.ref x_q8_23, .int 0])), (x_q8_23, .inl (x_k8_23, 10007, .inl (fun _ => 0))), (x_q30, .inr (3, [.ref x_q19, .ref x_q10_38, .ref x_q22_38])), (x_q10_38, .inr (2, [.ref x_q8_14_38, .ref x_q17_14_38, .null, .int 1, .int 0, .int (-1)])), (x_q8_14_38, .inl (x_k8_14_38, 10007, .inl (fun _ => 0))), (x_q17_14_38, .inl (x_k17_14_38, 128, .inl (fun _ => 0))), (x_q22_38, .inl (x_k22_38, 4, .inl (fun _ => 0))), (q8, .inr (5, [.int 0, .int 0, .int 0, .ref y_q8, .ref y_q17, .int 0, .ref y_q26, .int 0, .ref y_q35, .int 0, .ref y_q43, .ref y_q51, .ref y_q59, .ref y_q67, .ref y_q75, .ref y_q83, .ref y_q92, .ref y_q100])), (y_q8, .inl (y_k8, 10008, .inl (fun _ => 0))), (y_q17, .inl (y_k17, 10008, .inl (fun _ => 0))), (y_q26, .inl (y_k26, 10300, .inl (fun _ => 0))), (y_q35, .inl (y_k35, 10008, .inl (fun _ => 0))), (y_q43, .inl (y_k43, 24, .inl (fun _ => 0))), (y_q51, .inl (y_k51, 24, .inl (fun _ => 0))), (y_q59, .inl (y_k59, 24, .inl (fun _ => 0))), (y_q67, .inl (y_k67, 24, .inl (fun _ => 0))), (y_q75, .inl (y_k75, 24, .inl (fun _ => 0))), (y_q83, .inl (y_k83, 24, .inl (fun _ => 0))), (y_q92, .inl (y_k92, 10300, .inl (fun _ => 0))), (y_q100, .inl (y_k100, 64, .inl (fun _ => 0)))] H) (hD : va_D A [(q0, .inr (4, [.ref x_q7, .int 0, .ref x_q19, .ref x_q30])), (x_q7, .inl (x_k7, 24, .inr (.inr (.inr (.inr (fun _ => none)))))), (x_q19, .inr (1, [.ref x_q8_23, .int 0])), (x_q8_23, .inl (x_k8_23, 10007, .inl (fun _ => 0))), (x_q30, .inr (3, [.ref x_q19, .ref x_q10_38, .ref x_q22_38])), (x_q10_38, .inr (2, [.ref x_q8_14_38, .ref x_q17_14_38, .null, .int 1, .int 0, .int (-1)])), (x_q8_14_38, .inl (x_k8_14_38, 10007, .inl (fun _ => 0))), (x_q17_14_38, .inl (x_k17_14_38, 128, .inl (fun _ => 0))), (x_q22_38, .inl (x_k22_38, 4, .inl (fun _ => 0))), (q8, .inr (5, [.int 0, .int 0, .int 0, .ref y_q8, .ref y_q17, .int 0, .ref y_q26, .int 0, .ref y_q35, .int 0, .ref y_q43, .ref y_q51, .ref y_q59, .ref y_q67, .ref y_q75, .ref y_q83, .ref y_q92, .ref y_q100])), (y_q8, .inl (y_k8, 10008, .inl (fun _ => 0))), (y_q17, .inl (y_k17, 10008, .inl (fun _ => 0))), (y_q26, .inl (y_k26, 10300, .inl (fun _ => 0))), (y_q35, .inl (y_k35, 10008, .inl (fun _ => 0))), (y_q43, .inl (y_k43, 24, .inl (fun _ => 0))), (y_q51, .inl (y_k51, 24, .inl (fun _ => 0))), (y_q59, .inl (y_k59, 24, .inl (fun _ => 0))), (y_q67, .inl (y_k67, 24, .inl (fun _ => 0))), (y_q75, .inl (y_k75, 24, .inl (fun _ => 0))), (y_q83, .inl (y_k83, 24, .inl (fun _ => 0))), (y_q92, .inl (y_k92, 10300, .inl (fun _ => 0))), (y_q100, .inl (y_k100, 64, .inl (fun _ => 0)))]) (hS : va_S A s.heap H locs) (hl : lv_has ls 4 [(0, .ref b), (1, .ref q0), (2, .ref q8), (3, .int 0)]) : W p l e room_1 s m #[Value.ref b] below meth c H locs 22 71035 (lw_Z below #[Value.ref b] s) (F0 m 1114 ls []) := by
  obtain ⟨hx, hb, hr, hml, hown, hts, hX, hbl, hlocks, hgv⟩ := id C0
  have hbA : ¬ A b := by rw [hAe]; exact Nat.not_le.mpr hbl
  have hA0 : ∀ q : Nat, s.heap.size ≤ q → A q := fun q h => by rw [hAe]; exact h
  refine lv_aload_n hx hb dL_law_1114 rfl (lv_at hl 1 rfl) ?_
  refine lv_aload_n hx hb dL_law_1115 rfl (lv_at hl 0 rfl) ?_
  refine lv_iload_n hx hb dL_law_1116 rfl (lv_at hl 3 rfl) ?_
  refine lv_iconst (v := 1) hx hb dL_law_1117 (by decide) ?_
  refine lv_iadd hx hb dL_law_1118 ?_
  refine va_sld hx hb hX hbl hbA hS (l1_vin hL7 (vp_in_iff.mpr (by decide +kernel))) dL_law_1119 ?_
  refine lv_topi (fun s1 es1 => ?_)
  refine lv_aload_n hx hb dL_law_1120 rfl (lv_at hl 0 rfl) ?_
  refine lv_iload_n hx hb dL_law_1121 rfl (lv_at hl 3 rfl) ?_
  refine lv_iconst (v := 2) hx hb dL_law_1122 (by decide) ?_
  refine lv_iadd hx hb dL_law_1123 ?_
  refine va_sld hx hb hX hbl hbA hS (l1_vin hL7 (vp_in_iff.mpr (by decide +kernel))) dL_law_1124 ?_
  refine lv_topi (fun s2 es2 => ?_)
  have hPc := hP.sub (ws' := [(q0, .inr (4, [.ref x_q7, .int 0, .ref x_q19, .ref x_q30])), (x_q7, .inl (x_k7, 24, .inr (.inr (.inr (.inr (fun _ => none))))))]) [0, 1] rfl
  have hKc := hK.sub (tys' := [(x_k7, .object "PointRings$Curve")]) [0] rfl
  refine vp_callSi (W.runV (As := [.int s1, .int s2]) (rest := []) ⟨hx, hb, hml, hown, hts⟩ (ctX5_order_n l N dC dI  q0 x_q7 x_q19 x_q30 x_k7 0 (fun _ => none) s1 s2 (-2) rfl (l1_at N s1)) (cwV 2 hts gL1_X5_order_n rfl rfl rfl (by decide +kernel) ⟨Nat.le_of_ble_eq_true rfl, Nat.le_of_ble_eq_true rfl⟩) ⟨fun a U g mk q => by obtain ⟨q0, qP, qK, qN⟩ := q; exact ⟨q0, qP, va_K.moved (u := U) (U := U.calling g mk a) (Vm.Alike.refl U.vm) qK, nw_same (u := U) (U := U.calling g mk a) rfl qN⟩, va_recv hKc hPc (ci := 4) (q0 := 0) rfl rfl, fun U hU hW => ⟨rfl, by rw [hU]; exact hPc, va_K.moved hW.alike hKc, nw_warm hW hN⟩⟩ rfl rfl hl.1 rfl (lv_room (Nat.le_of_ble_eq_true rfl)) dL_law_1125 ⟨by decide +kernel, by decide +kernel⟩) (fun q9 eq9 => ?_)
  subst q9
  refine lv_aload_n hx hb dL_law_1128 rfl (lv_at hl 2 rfl) ?_
  refine lv_aload_n hx hb dL_law_1129 rfl (lv_at hl 0 rfl) ?_
  refine lv_iload_n hx hb dL_law_1130 rfl (lv_at hl 3 rfl) ?_
  refine lv_iconst (v := 1) hx hb dL_law_1131 (by decide) ?_
  refine lv_iadd hx hb dL_law_1132 ?_
  refine va_sld hx hb hX hbl hbA hS (l1_vin hL7 (vp_in_iff.mpr (by decide +kernel))) dL_law_1133 ?_
  rw [← es1]
  refine lv_aload_n hx hb dL_law_1134 rfl (lv_at hl 0 rfl) ?_
  refine lv_iload_n hx hb dL_law_1135 rfl (lv_at hl 3 rfl) ?_
  refine lv_iconst (v := 2) hx hb dL_law_1136 (by decide) ?_
  refine lv_iadd hx hb dL_law_1137 ?_
  refine va_sld hx hb hX hbl hbA hS (l1_vin hL7 (vp_in_iff.mpr (by decide +kernel))) dL_law_1138 ?_
  rw [← es2]
  have hPc := hP.sub (ws' := [(q8, .inr (5, [.int 0, .int 0, .int 0, .ref y_q8, .ref y_q17, .int 0, .ref y_q26, .int 0, .ref y_q35, .int 0, .ref y_q43, .ref y_q51, .ref y_q59, .ref y_q67, .ref y_q75, .ref y_q83, .ref y_q92, .ref y_q100]))]) [9] rfl
  have hKc := hK.sub (tys' := []) [] rfl
  refine vp_callSi (W.runV (As := [.int s1, .int s2]) (rest := [.int (-2)]) ⟨hx, hb, hml, hown, hts⟩ (ctX6_order_n l N dC dI  q8 y_q8 y_q17 y_q26 y_q35 y_q43 y_q51 y_q59 y_q67 y_q75 y_q83 y_q92 y_q100 0 0 0 0 0 0 s1 s2 (-2) rfl (l1_in N s1)) (cwV 2 hts gL1_X6_order_n rfl rfl rfl (by decide +kernel) ⟨Nat.le_of_ble_eq_true rfl, Nat.le_of_ble_eq_true rfl⟩) ⟨fun a U g mk q => by obtain ⟨q0, qP, qK, qN⟩ := q; exact ⟨q0, qP, va_K.moved (u := U) (U := U.calling g mk a) (Vm.Alike.refl U.vm) qK, nw_same (u := U) (U := U.calling g mk a) rfl qN⟩, va_recv hKc hPc (ci := 5) (q0 := 0) rfl rfl, fun U hU hW => ⟨rfl, by rw [hU]; exact hPc, va_K.moved hW.alike hKc, nw_warm hW hN⟩⟩ rfl rfl hl.1 rfl (lv_room (Nat.le_of_ble_eq_true rfl)) dL_law_1139 ⟨by decide +kernel, by decide +kernel⟩) (fun q9 eq9 => ?_)
  subst q9
  refine lv_icmp_eq (tgt := 1739) hx hb dL_law_1142 (by decide) (fun c128 => ?_) (fun c128 => ?_)
  · exact law1_end hL C0 hAe (by decide +kernel) (by decide +kernel) hS ls (lv_sub hl [0, 3] rfl)
  · exact absurd (rfl : (-2) = ((-2) : Int32)) c128
set_option maxHeartbeats 4000000 in
set_option maxRecDepth 100000 in
theorem law1_c24 {p : Program} {l : Launch} {e : Env} {s : State} {m : MethodId} {below : List Frame} {meth : Method} {c : Code} {b L : Nat} {xs : Nat → Int32} (hL : L ≤ 7) (hL7 : L = 7) (C0 : lw_At p s m meth c b L xs) (N : Nat) (hN1 : 20000 ≤ N) (dC : Nat → ClassId) (dI : Nat → Nat → Nat) (q0 x_q7 x_q19 x_q8_23 x_q30 x_q10_38 x_q8_14_38 x_q17_14_38 x_q22_38 q8 y_q8 y_q17 y_q26 y_q35 y_q43 y_q51 y_q59 y_q67 y_q75 y_q83 y_q92 y_q100 : Nat) (x_k7 x_k8_23 x_k8_14_38 x_k17_14_38 x_k22_38 y_k8 y_k17 y_k26 y_k35 y_k43 y_k51 y_k59 y_k67 y_k75 y_k83 y_k92 y_k100 : ClassId) {A : Nat → Prop} (hAe : A = fun q => s.heap.size ≤ q) (H : Heap) (locs : List Loc) (ls : Array Slot) (hN : nw_all s) (hK : va_K (dC, dI) vwCl [(x_k7, .object "PointRings$Curve"), (x_k8_23, .int), (x_k8_14_38, .int), (x_k17_14_38, .int), (x_k22_38, .int), (y_k8, .int), (y_k17, .int), (y_k26, .int), (y_k35, .int), (y_k43, .int), (y_k51, .int), (y_k59, .int), (y_k67, .int), (y_k75, .int), (y_k83, .int), (y_k92, .boolean), (y_k100, .boolean)] s) (hP : va_P (dC, dI) vwCl [(q0, .inr (4, [.ref x_q7, .int 0, .ref x_q19, .ref x_q30])), (x_q7, .inl (x_k7, 24, .inr (.inr (.inr (.inr (fun _ => none)))))), (x_q19, .inr (1, [.ref x_q8_23, .int 0])), (x_q8_23, .inl (x_k8_23, 10007, .inl (fun _ => 0))), (x_q30, .inr (3, [.ref x_q19, .ref x_q10_38, .ref x_q22_38])), (x_q10_38, .inr (2, [.ref x_q8_14_38, .ref x_q17_14_38, .null, .int 1, .int 0, .int (-1)])), (x_q8_14_38, .inl (x_k8_14_38, 10007, .inl (fun _ => 0))), (x_q17_14_38, .inl (x_k17_14_38, 128, .inl (fun _ => 0))), (x_q22_38, .inl (x_k22_38, 4, .inl (fun _ => 0))), (q8, .inr (5, [.int 0, .int 0, .int 0, .ref y_q8, .ref y_q17, .int 0, .ref y_q26, .int 0, .ref y_q35, .int 0, .ref y_q43, .ref y_q51, .ref y_q59, .ref y_q67, .ref y_q75, .ref y_q83, .ref y_q92, .ref y_q100])), (y_q8, .inl (y_k8, 10008, .inl (fun _ => 0))), (y_q17, .inl (y_k17, 10008, .inl (fun _ => 0))), (y_q26, .inl (y_k26, 10300, .inl (fun _ => 0))), (y_q35, .inl (y_k35, 10008, .inl (fun _ => 0))), (y_q43, .inl (y_k43, 24, .inl (fun _ => 0))), (y_q51, .inl (y_k51, 24, .inl (fun _ => 0))), (y_q59, .inl (y_k59, 24, .inl (fun _ => 0))), (y_q67, .inl (y_k67, 24, .inl (fun _ => 0))), (y_q75, .inl (y_k75, 24, .inl (fun _ => 0))), (y_q83, .inl (y_k83, 24, .inl (fun _ => 0))), (y_q92, .inl (y_k92, 10300, .inl (fun _ => 0))), (y_q100, .inl (y_k100, 64, .inl (fun _ => 0)))] H) (hD : va_D A [(q0, .inr (4, [.ref x_q7, .int 0, .ref x_q19, .ref x_q30])), (x_q7, .inl (x_k7, 24, .inr (.inr (.inr (.inr (fun _ => none)))))), (x_q19, .inr (1, [.ref x_q8_23, .int 0])), (x_q8_23, .inl (x_k8_23, 10007, .inl (fun _ => 0))), (x_q30, .inr (3, [.ref x_q19, .ref x_q10_38, .ref x_q22_38])), (x_q10_38, .inr (2, [.ref x_q8_14_38, .ref x_q17_14_38, .null, .int 1, .int 0, .int (-1)])), (x_q8_14_38, .inl (x_k8_14_38, 10007, .inl (fun _ => 0))), (x_q17_14_38, .inl (x_k17_14_38, 128, .inl (fun _ => 0))), (x_q22_38, .inl (x_k22_38, 4, .inl (fun _ => 0))), (q8, .inr (5, [.int 0, .int 0, .int 0, .ref y_q8, .ref y_q17, .int 0, .ref y_q26, .int 0, .ref y_q35, .int 0, .ref y_q43, .ref y_q51, .ref y_q59, .ref y_q67, .ref y_q75, .ref y_q83, .ref y_q92, .ref y_q100])), (y_q8, .inl (y_k8, 10008, .inl (fun _ => 0))), (y_q17, .inl (y_k17, 10008, .inl (fun _ => 0))), (y_q26, .inl (y_k26, 10300, .inl (fun _ => 0))), (y_q35, .inl (y_k35, 10008, .inl (fun _ => 0))), (y_q43, .inl (y_k43, 24, .inl (fun _ => 0))), (y_q51, .inl (y_k51, 24, .inl (fun _ => 0))), (y_q59, .inl (y_k59, 24, .inl (fun _ => 0))), (y_q67, .inl (y_k67, 24, .inl (fun _ => 0))), (y_q75, .inl (y_k75, 24, .inl (fun _ => 0))), (y_q83, .inl (y_k83, 24, .inl (fun _ => 0))), (y_q92, .inl (y_k92, 10300, .inl (fun _ => 0))), (y_q100, .inl (y_k100, 64, .inl (fun _ => 0)))]) (hS : va_S A s.heap H locs) (hl : lv_has ls 4 [(0, .ref b), (1, .ref q0), (2, .ref q8), (3, .int 0)]) : W p l e room_1 s m #[Value.ref b] below meth c H locs 22 71035 (lw_Z below #[Value.ref b] s) (F0 m 1147 ls []) := by
  obtain ⟨hx, hb, hr, hml, hown, hts, hX, hbl, hlocks, hgv⟩ := id C0
  have hbA : ¬ A b := by rw [hAe]; exact Nat.not_le.mpr hbl
  have hA0 : ∀ q : Nat, s.heap.size ≤ q → A q := fun q h => by rw [hAe]; exact h
  refine lv_aload_n hx hb dL_law_1147 rfl (lv_at hl 1 rfl) ?_
  refine lv_aload_n hx hb dL_law_1148 rfl (lv_at hl 0 rfl) ?_
  refine lv_iload_n hx hb dL_law_1149 rfl (lv_at hl 3 rfl) ?_
  refine lv_iconst (v := 1) hx hb dL_law_1150 (by decide) ?_
  refine lv_iadd hx hb dL_law_1151 ?_
  refine va_sld hx hb hX hbl hbA hS (l1_vin hL7 (vp_in_iff.mpr (by decide +kernel))) dL_law_1152 ?_
  refine lv_topi (fun s1 es1 => ?_)
  refine lv_aload_n hx hb dL_law_1153 rfl (lv_at hl 0 rfl) ?_
  refine lv_iload_n hx hb dL_law_1154 rfl (lv_at hl 3 rfl) ?_
  refine lv_iconst (v := 2) hx hb dL_law_1155 (by decide) ?_
  refine lv_iadd hx hb dL_law_1156 ?_
  refine va_sld hx hb hX hbl hbA hS (l1_vin hL7 (vp_in_iff.mpr (by decide +kernel))) dL_law_1157 ?_
  refine lv_topi (fun s2 es2 => ?_)
  have hPc := hP.sub (ws' := [(q0, .inr (4, [.ref x_q7, .int 0, .ref x_q19, .ref x_q30])), (x_q7, .inl (x_k7, 24, .inr (.inr (.inr (.inr (fun _ => none))))))]) [0, 1] rfl
  have hKc := hK.sub (tys' := [(x_k7, .object "PointRings$Curve")]) [0] rfl
  refine vp_callSi (W.runV (As := [.int s1, .int s2]) (rest := []) ⟨hx, hb, hml, hown, hts⟩ (ctX5_ofOrder_n l N dC dI  q0 x_q7 x_q19 x_q30 x_k7 0 (fun _ => none) s1 s2 (-2) rfl (l1_at N s1)) (cwV 2 hts gL1_X5_ofOrder_n rfl rfl rfl (by decide +kernel) ⟨Nat.le_of_ble_eq_true rfl, Nat.le_of_ble_eq_true rfl⟩) ⟨fun a U g mk q => by obtain ⟨q0, qP, qK, qN⟩ := q; exact ⟨q0, qP, va_K.moved (u := U) (U := U.calling g mk a) (Vm.Alike.refl U.vm) qK, nw_same (u := U) (U := U.calling g mk a) rfl qN⟩, va_recv hKc hPc (ci := 4) (q0 := 0) rfl rfl, fun U hU hW => ⟨rfl, by rw [hU]; exact hPc, va_K.moved hW.alike hKc, nw_warm hW hN⟩⟩ rfl rfl hl.1 rfl (lv_room (Nat.le_of_ble_eq_true rfl)) dL_law_1158 ⟨by decide +kernel, by decide +kernel⟩) (fun q9 eq9 => ?_)
  subst q9
  refine lv_aload_n hx hb dL_law_1161 rfl (lv_at hl 2 rfl) ?_
  refine lv_aload_n hx hb dL_law_1162 rfl (lv_at hl 0 rfl) ?_
  refine lv_iload_n hx hb dL_law_1163 rfl (lv_at hl 3 rfl) ?_
  refine lv_iconst (v := 1) hx hb dL_law_1164 (by decide) ?_
  refine lv_iadd hx hb dL_law_1165 ?_
  refine va_sld hx hb hX hbl hbA hS (l1_vin hL7 (vp_in_iff.mpr (by decide +kernel))) dL_law_1166 ?_
  rw [← es1]
  refine lv_aload_n hx hb dL_law_1167 rfl (lv_at hl 0 rfl) ?_
  refine lv_iload_n hx hb dL_law_1168 rfl (lv_at hl 3 rfl) ?_
  refine lv_iconst (v := 2) hx hb dL_law_1169 (by decide) ?_
  refine lv_iadd hx hb dL_law_1170 ?_
  refine va_sld hx hb hX hbl hbA hS (l1_vin hL7 (vp_in_iff.mpr (by decide +kernel))) dL_law_1171 ?_
  rw [← es2]
  have hPc := hP.sub (ws' := [(q8, .inr (5, [.int 0, .int 0, .int 0, .ref y_q8, .ref y_q17, .int 0, .ref y_q26, .int 0, .ref y_q35, .int 0, .ref y_q43, .ref y_q51, .ref y_q59, .ref y_q67, .ref y_q75, .ref y_q83, .ref y_q92, .ref y_q100]))]) [9] rfl
  have hKc := hK.sub (tys' := []) [] rfl
  refine vp_callSi (W.runV (As := [.int s1, .int s2]) (rest := [.int (-2)]) ⟨hx, hb, hml, hown, hts⟩ (ctX6_ofOrder_n l N dC dI  q8 y_q8 y_q17 y_q26 y_q35 y_q43 y_q51 y_q59 y_q67 y_q75 y_q83 y_q92 y_q100 0 0 0 0 0 0 s1 s2 (-2) rfl (l1_in N s1)) (cwV 2 hts gL1_X6_ofOrder_n rfl rfl rfl (by decide +kernel) ⟨Nat.le_of_ble_eq_true rfl, Nat.le_of_ble_eq_true rfl⟩) ⟨fun a U g mk q => by obtain ⟨q0, qP, qK, qN⟩ := q; exact ⟨q0, qP, va_K.moved (u := U) (U := U.calling g mk a) (Vm.Alike.refl U.vm) qK, nw_same (u := U) (U := U.calling g mk a) rfl qN⟩, va_recv hKc hPc (ci := 5) (q0 := 0) rfl rfl, fun U hU hW => ⟨rfl, by rw [hU]; exact hPc, va_K.moved hW.alike hKc, nw_warm hW hN⟩⟩ rfl rfl hl.1 rfl (lv_room (Nat.le_of_ble_eq_true rfl)) dL_law_1172 ⟨by decide +kernel, by decide +kernel⟩) (fun q9 eq9 => ?_)
  subst q9
  refine lv_icmp_eq (tgt := 1739) hx hb dL_law_1175 (by decide) (fun c131 => ?_) (fun c131 => ?_)
  · exact law1_end hL C0 hAe (by decide +kernel) (by decide +kernel) hS ls (lv_sub hl [0, 3] rfl)
  · exact absurd (rfl : (-2) = ((-2) : Int32)) c131
set_option maxHeartbeats 4000000 in
set_option maxRecDepth 100000 in
theorem law1_c25 {p : Program} {l : Launch} {e : Env} {s : State} {m : MethodId} {below : List Frame} {meth : Method} {c : Code} {b L : Nat} {xs : Nat → Int32} (hL : L ≤ 7) (hL7 : L = 7) (C0 : lw_At p s m meth c b L xs) (N : Nat) (hN1 : 20000 ≤ N) (dC : Nat → ClassId) (dI : Nat → Nat → Nat) (q0 x_q7 x_q19 x_q8_23 x_q30 x_q10_38 x_q8_14_38 x_q17_14_38 x_q22_38 q8 y_q8 y_q17 y_q26 y_q35 y_q43 y_q51 y_q59 y_q67 y_q75 y_q83 y_q92 y_q100 : Nat) (x_k7 x_k8_23 x_k8_14_38 x_k17_14_38 x_k22_38 y_k8 y_k17 y_k26 y_k35 y_k43 y_k51 y_k59 y_k67 y_k75 y_k83 y_k92 y_k100 : ClassId) {A : Nat → Prop} (hAe : A = fun q => s.heap.size ≤ q) (H : Heap) (locs : List Loc) (ls : Array Slot) (hN : nw_all s) (hK : va_K (dC, dI) vwCl [(x_k7, .object "PointRings$Curve"), (x_k8_23, .int), (x_k8_14_38, .int), (x_k17_14_38, .int), (x_k22_38, .int), (y_k8, .int), (y_k17, .int), (y_k26, .int), (y_k35, .int), (y_k43, .int), (y_k51, .int), (y_k59, .int), (y_k67, .int), (y_k75, .int), (y_k83, .int), (y_k92, .boolean), (y_k100, .boolean)] s) (hP : va_P (dC, dI) vwCl [(q0, .inr (4, [.ref x_q7, .int 0, .ref x_q19, .ref x_q30])), (x_q7, .inl (x_k7, 24, .inr (.inr (.inr (.inr (fun _ => none)))))), (x_q19, .inr (1, [.ref x_q8_23, .int 0])), (x_q8_23, .inl (x_k8_23, 10007, .inl (fun _ => 0))), (x_q30, .inr (3, [.ref x_q19, .ref x_q10_38, .ref x_q22_38])), (x_q10_38, .inr (2, [.ref x_q8_14_38, .ref x_q17_14_38, .null, .int 1, .int 0, .int (-1)])), (x_q8_14_38, .inl (x_k8_14_38, 10007, .inl (fun _ => 0))), (x_q17_14_38, .inl (x_k17_14_38, 128, .inl (fun _ => 0))), (x_q22_38, .inl (x_k22_38, 4, .inl (fun _ => 0))), (q8, .inr (5, [.int 0, .int 0, .int 0, .ref y_q8, .ref y_q17, .int 0, .ref y_q26, .int 0, .ref y_q35, .int 0, .ref y_q43, .ref y_q51, .ref y_q59, .ref y_q67, .ref y_q75, .ref y_q83, .ref y_q92, .ref y_q100])), (y_q8, .inl (y_k8, 10008, .inl (fun _ => 0))), (y_q17, .inl (y_k17, 10008, .inl (fun _ => 0))), (y_q26, .inl (y_k26, 10300, .inl (fun _ => 0))), (y_q35, .inl (y_k35, 10008, .inl (fun _ => 0))), (y_q43, .inl (y_k43, 24, .inl (fun _ => 0))), (y_q51, .inl (y_k51, 24, .inl (fun _ => 0))), (y_q59, .inl (y_k59, 24, .inl (fun _ => 0))), (y_q67, .inl (y_k67, 24, .inl (fun _ => 0))), (y_q75, .inl (y_k75, 24, .inl (fun _ => 0))), (y_q83, .inl (y_k83, 24, .inl (fun _ => 0))), (y_q92, .inl (y_k92, 10300, .inl (fun _ => 0))), (y_q100, .inl (y_k100, 64, .inl (fun _ => 0)))] H) (hD : va_D A [(q0, .inr (4, [.ref x_q7, .int 0, .ref x_q19, .ref x_q30])), (x_q7, .inl (x_k7, 24, .inr (.inr (.inr (.inr (fun _ => none)))))), (x_q19, .inr (1, [.ref x_q8_23, .int 0])), (x_q8_23, .inl (x_k8_23, 10007, .inl (fun _ => 0))), (x_q30, .inr (3, [.ref x_q19, .ref x_q10_38, .ref x_q22_38])), (x_q10_38, .inr (2, [.ref x_q8_14_38, .ref x_q17_14_38, .null, .int 1, .int 0, .int (-1)])), (x_q8_14_38, .inl (x_k8_14_38, 10007, .inl (fun _ => 0))), (x_q17_14_38, .inl (x_k17_14_38, 128, .inl (fun _ => 0))), (x_q22_38, .inl (x_k22_38, 4, .inl (fun _ => 0))), (q8, .inr (5, [.int 0, .int 0, .int 0, .ref y_q8, .ref y_q17, .int 0, .ref y_q26, .int 0, .ref y_q35, .int 0, .ref y_q43, .ref y_q51, .ref y_q59, .ref y_q67, .ref y_q75, .ref y_q83, .ref y_q92, .ref y_q100])), (y_q8, .inl (y_k8, 10008, .inl (fun _ => 0))), (y_q17, .inl (y_k17, 10008, .inl (fun _ => 0))), (y_q26, .inl (y_k26, 10300, .inl (fun _ => 0))), (y_q35, .inl (y_k35, 10008, .inl (fun _ => 0))), (y_q43, .inl (y_k43, 24, .inl (fun _ => 0))), (y_q51, .inl (y_k51, 24, .inl (fun _ => 0))), (y_q59, .inl (y_k59, 24, .inl (fun _ => 0))), (y_q67, .inl (y_k67, 24, .inl (fun _ => 0))), (y_q75, .inl (y_k75, 24, .inl (fun _ => 0))), (y_q83, .inl (y_k83, 24, .inl (fun _ => 0))), (y_q92, .inl (y_k92, 10300, .inl (fun _ => 0))), (y_q100, .inl (y_k100, 64, .inl (fun _ => 0)))]) (hS : va_S A s.heap H locs) (hl : lv_has ls 4 [(0, .ref b), (1, .ref q0), (2, .ref q8), (3, .int 0)]) : W p l e room_1 s m #[Value.ref b] below meth c H locs 22 71035 (lw_Z below #[Value.ref b] s) (F0 m 1180 ls []) := by
  obtain ⟨hx, hb, hr, hml, hown, hts, hX, hbl, hlocks, hgv⟩ := id C0
  have hbA : ¬ A b := by rw [hAe]; exact Nat.not_le.mpr hbl
  have hA0 : ∀ q : Nat, s.heap.size ≤ q → A q := fun q h => by rw [hAe]; exact h
  refine lv_aload_n hx hb dL_law_1180 rfl (lv_at hl 1 rfl) ?_
  refine lv_aload_n hx hb dL_law_1181 rfl (lv_at hl 0 rfl) ?_
  refine lv_iload_n hx hb dL_law_1182 rfl (lv_at hl 3 rfl) ?_
  refine lv_iconst (v := 1) hx hb dL_law_1183 (by decide) ?_
  refine lv_iadd hx hb dL_law_1184 ?_
  refine va_sld hx hb hX hbl hbA hS (l1_vin hL7 (vp_in_iff.mpr (by decide +kernel))) dL_law_1185 ?_
  refine lv_topi (fun s1 es1 => ?_)
  refine lv_aload_n hx hb dL_law_1186 rfl (lv_at hl 0 rfl) ?_
  refine lv_iload_n hx hb dL_law_1187 rfl (lv_at hl 3 rfl) ?_
  refine lv_iconst (v := 2) hx hb dL_law_1188 (by decide) ?_
  refine lv_iadd hx hb dL_law_1189 ?_
  refine va_sld hx hb hX hbl hbA hS (l1_vin hL7 (vp_in_iff.mpr (by decide +kernel))) dL_law_1190 ?_
  refine lv_topi (fun s2 es2 => ?_)
  have hPc := hP.sub (ws' := [(q0, .inr (4, [.ref x_q7, .int 0, .ref x_q19, .ref x_q30])), (x_q7, .inl (x_k7, 24, .inr (.inr (.inr (.inr (fun _ => none))))))]) [0, 1] rfl
  have hKc := hK.sub (tys' := [(x_k7, .object "PointRings$Curve")]) [0] rfl
  refine vp_callSi (W.runV (As := [.int s1, .int s2]) (rest := []) ⟨hx, hb, hml, hown, hts⟩ (ctX5_torsion_n l N dC dI  q0 x_q7 x_q19 x_q30 x_k7 0 (fun _ => none) s1 s2 (-2) rfl (l1_at N s1)) (cwV 2 hts gL1_X5_torsion_n rfl rfl rfl (by decide +kernel) ⟨Nat.le_of_ble_eq_true rfl, Nat.le_of_ble_eq_true rfl⟩) ⟨fun a U g mk q => by obtain ⟨q0, qP, qK, qN⟩ := q; exact ⟨q0, qP, va_K.moved (u := U) (U := U.calling g mk a) (Vm.Alike.refl U.vm) qK, nw_same (u := U) (U := U.calling g mk a) rfl qN⟩, va_recv hKc hPc (ci := 4) (q0 := 0) rfl rfl, fun U hU hW => ⟨rfl, by rw [hU]; exact hPc, va_K.moved hW.alike hKc, nw_warm hW hN⟩⟩ rfl rfl hl.1 rfl (lv_room (Nat.le_of_ble_eq_true rfl)) dL_law_1191 ⟨by decide +kernel, by decide +kernel⟩) (fun q9 eq9 => ?_)
  subst q9
  refine lv_aload_n hx hb dL_law_1194 rfl (lv_at hl 2 rfl) ?_
  refine lv_aload_n hx hb dL_law_1195 rfl (lv_at hl 0 rfl) ?_
  refine lv_iload_n hx hb dL_law_1196 rfl (lv_at hl 3 rfl) ?_
  refine lv_iconst (v := 1) hx hb dL_law_1197 (by decide) ?_
  refine lv_iadd hx hb dL_law_1198 ?_
  refine va_sld hx hb hX hbl hbA hS (l1_vin hL7 (vp_in_iff.mpr (by decide +kernel))) dL_law_1199 ?_
  rw [← es1]
  refine lv_aload_n hx hb dL_law_1200 rfl (lv_at hl 0 rfl) ?_
  refine lv_iload_n hx hb dL_law_1201 rfl (lv_at hl 3 rfl) ?_
  refine lv_iconst (v := 2) hx hb dL_law_1202 (by decide) ?_
  refine lv_iadd hx hb dL_law_1203 ?_
  refine va_sld hx hb hX hbl hbA hS (l1_vin hL7 (vp_in_iff.mpr (by decide +kernel))) dL_law_1204 ?_
  rw [← es2]
  have hPc := hP.sub (ws' := [(q8, .inr (5, [.int 0, .int 0, .int 0, .ref y_q8, .ref y_q17, .int 0, .ref y_q26, .int 0, .ref y_q35, .int 0, .ref y_q43, .ref y_q51, .ref y_q59, .ref y_q67, .ref y_q75, .ref y_q83, .ref y_q92, .ref y_q100]))]) [9] rfl
  have hKc := hK.sub (tys' := []) [] rfl
  refine vp_callSi (W.runV (As := [.int s1, .int s2]) (rest := [.int (-2)]) ⟨hx, hb, hml, hown, hts⟩ (ctX6_torsion_n l N dC dI  q8 y_q8 y_q17 y_q26 y_q35 y_q43 y_q51 y_q59 y_q67 y_q75 y_q83 y_q92 y_q100 0 0 0 0 0 0 s1 s2 (-2) rfl (l1_in N s1)) (cwV 2 hts gL1_X6_torsion_n rfl rfl rfl (by decide +kernel) ⟨Nat.le_of_ble_eq_true rfl, Nat.le_of_ble_eq_true rfl⟩) ⟨fun a U g mk q => by obtain ⟨q0, qP, qK, qN⟩ := q; exact ⟨q0, qP, va_K.moved (u := U) (U := U.calling g mk a) (Vm.Alike.refl U.vm) qK, nw_same (u := U) (U := U.calling g mk a) rfl qN⟩, va_recv hKc hPc (ci := 5) (q0 := 0) rfl rfl, fun U hU hW => ⟨rfl, by rw [hU]; exact hPc, va_K.moved hW.alike hKc, nw_warm hW hN⟩⟩ rfl rfl hl.1 rfl (lv_room (Nat.le_of_ble_eq_true rfl)) dL_law_1205 ⟨by decide +kernel, by decide +kernel⟩) (fun q9 eq9 => ?_)
  subst q9
  refine lv_icmp_eq (tgt := 1739) hx hb dL_law_1208 (by decide) (fun c134 => ?_) (fun c134 => ?_)
  · exact law1_end hL C0 hAe (by decide +kernel) (by decide +kernel) hS ls (lv_sub hl [0, 3] rfl)
  · exact absurd (rfl : (-2) = ((-2) : Int32)) c134
set_option maxHeartbeats 4000000 in
set_option maxRecDepth 100000 in
theorem law1_c26 {p : Program} {l : Launch} {e : Env} {s : State} {m : MethodId} {below : List Frame} {meth : Method} {c : Code} {b L : Nat} {xs : Nat → Int32} (hL : L ≤ 7) (hL7 : L = 7) (C0 : lw_At p s m meth c b L xs) (N : Nat) (hN1 : 20000 ≤ N) (dC : Nat → ClassId) (dI : Nat → Nat → Nat) (q0 x_q7 x_q19 x_q8_23 x_q30 x_q10_38 x_q8_14_38 x_q17_14_38 x_q22_38 q8 y_q8 y_q17 y_q26 y_q35 y_q43 y_q51 y_q59 y_q67 y_q75 y_q83 y_q92 y_q100 : Nat) (x_k7 x_k8_23 x_k8_14_38 x_k17_14_38 x_k22_38 y_k8 y_k17 y_k26 y_k35 y_k43 y_k51 y_k59 y_k67 y_k75 y_k83 y_k92 y_k100 : ClassId) {A : Nat → Prop} (hAe : A = fun q => s.heap.size ≤ q) (H : Heap) (locs : List Loc) (ls : Array Slot) (hN : nw_all s) (hK : va_K (dC, dI) vwCl [(x_k7, .object "PointRings$Curve"), (x_k8_23, .int), (x_k8_14_38, .int), (x_k17_14_38, .int), (x_k22_38, .int), (y_k8, .int), (y_k17, .int), (y_k26, .int), (y_k35, .int), (y_k43, .int), (y_k51, .int), (y_k59, .int), (y_k67, .int), (y_k75, .int), (y_k83, .int), (y_k92, .boolean), (y_k100, .boolean)] s) (hP : va_P (dC, dI) vwCl [(q0, .inr (4, [.ref x_q7, .int 0, .ref x_q19, .ref x_q30])), (x_q7, .inl (x_k7, 24, .inr (.inr (.inr (.inr (fun _ => none)))))), (x_q19, .inr (1, [.ref x_q8_23, .int 0])), (x_q8_23, .inl (x_k8_23, 10007, .inl (fun _ => 0))), (x_q30, .inr (3, [.ref x_q19, .ref x_q10_38, .ref x_q22_38])), (x_q10_38, .inr (2, [.ref x_q8_14_38, .ref x_q17_14_38, .null, .int 1, .int 0, .int (-1)])), (x_q8_14_38, .inl (x_k8_14_38, 10007, .inl (fun _ => 0))), (x_q17_14_38, .inl (x_k17_14_38, 128, .inl (fun _ => 0))), (x_q22_38, .inl (x_k22_38, 4, .inl (fun _ => 0))), (q8, .inr (5, [.int 0, .int 0, .int 0, .ref y_q8, .ref y_q17, .int 0, .ref y_q26, .int 0, .ref y_q35, .int 0, .ref y_q43, .ref y_q51, .ref y_q59, .ref y_q67, .ref y_q75, .ref y_q83, .ref y_q92, .ref y_q100])), (y_q8, .inl (y_k8, 10008, .inl (fun _ => 0))), (y_q17, .inl (y_k17, 10008, .inl (fun _ => 0))), (y_q26, .inl (y_k26, 10300, .inl (fun _ => 0))), (y_q35, .inl (y_k35, 10008, .inl (fun _ => 0))), (y_q43, .inl (y_k43, 24, .inl (fun _ => 0))), (y_q51, .inl (y_k51, 24, .inl (fun _ => 0))), (y_q59, .inl (y_k59, 24, .inl (fun _ => 0))), (y_q67, .inl (y_k67, 24, .inl (fun _ => 0))), (y_q75, .inl (y_k75, 24, .inl (fun _ => 0))), (y_q83, .inl (y_k83, 24, .inl (fun _ => 0))), (y_q92, .inl (y_k92, 10300, .inl (fun _ => 0))), (y_q100, .inl (y_k100, 64, .inl (fun _ => 0)))] H) (hD : va_D A [(q0, .inr (4, [.ref x_q7, .int 0, .ref x_q19, .ref x_q30])), (x_q7, .inl (x_k7, 24, .inr (.inr (.inr (.inr (fun _ => none)))))), (x_q19, .inr (1, [.ref x_q8_23, .int 0])), (x_q8_23, .inl (x_k8_23, 10007, .inl (fun _ => 0))), (x_q30, .inr (3, [.ref x_q19, .ref x_q10_38, .ref x_q22_38])), (x_q10_38, .inr (2, [.ref x_q8_14_38, .ref x_q17_14_38, .null, .int 1, .int 0, .int (-1)])), (x_q8_14_38, .inl (x_k8_14_38, 10007, .inl (fun _ => 0))), (x_q17_14_38, .inl (x_k17_14_38, 128, .inl (fun _ => 0))), (x_q22_38, .inl (x_k22_38, 4, .inl (fun _ => 0))), (q8, .inr (5, [.int 0, .int 0, .int 0, .ref y_q8, .ref y_q17, .int 0, .ref y_q26, .int 0, .ref y_q35, .int 0, .ref y_q43, .ref y_q51, .ref y_q59, .ref y_q67, .ref y_q75, .ref y_q83, .ref y_q92, .ref y_q100])), (y_q8, .inl (y_k8, 10008, .inl (fun _ => 0))), (y_q17, .inl (y_k17, 10008, .inl (fun _ => 0))), (y_q26, .inl (y_k26, 10300, .inl (fun _ => 0))), (y_q35, .inl (y_k35, 10008, .inl (fun _ => 0))), (y_q43, .inl (y_k43, 24, .inl (fun _ => 0))), (y_q51, .inl (y_k51, 24, .inl (fun _ => 0))), (y_q59, .inl (y_k59, 24, .inl (fun _ => 0))), (y_q67, .inl (y_k67, 24, .inl (fun _ => 0))), (y_q75, .inl (y_k75, 24, .inl (fun _ => 0))), (y_q83, .inl (y_k83, 24, .inl (fun _ => 0))), (y_q92, .inl (y_k92, 10300, .inl (fun _ => 0))), (y_q100, .inl (y_k100, 64, .inl (fun _ => 0)))]) (hS : va_S A s.heap H locs) (hl : lv_has ls 4 [(0, .ref b), (1, .ref q0), (2, .ref q8), (3, .int 0)]) : W p l e room_1 s m #[Value.ref b] below meth c H locs 22 71035 (lw_Z below #[Value.ref b] s) (F0 m 1213 ls []) := by
  obtain ⟨hx, hb, hr, hml, hown, hts, hX, hbl, hlocks, hgv⟩ := id C0
  have hbA : ¬ A b := by rw [hAe]; exact Nat.not_le.mpr hbl
  have hA0 : ∀ q : Nat, s.heap.size ≤ q → A q := fun q h => by rw [hAe]; exact h
  refine lv_aload_n hx hb dL_law_1213 rfl (lv_at hl 1 rfl) ?_
  refine lv_aload_n hx hb dL_law_1214 rfl (lv_at hl 0 rfl) ?_
  refine lv_iload_n hx hb dL_law_1215 rfl (lv_at hl 3 rfl) ?_
  refine lv_iconst (v := 1) hx hb dL_law_1216 (by decide) ?_
  refine lv_iadd hx hb dL_law_1217 ?_
  refine va_sld hx hb hX hbl hbA hS (l1_vin hL7 (vp_in_iff.mpr (by decide +kernel))) dL_law_1218 ?_
  refine lv_topi (fun s1 es1 => ?_)
  refine lv_aload_n hx hb dL_law_1219 rfl (lv_at hl 0 rfl) ?_
  refine lv_iload_n hx hb dL_law_1220 rfl (lv_at hl 3 rfl) ?_
  refine lv_iconst (v := 2) hx hb dL_law_1221 (by decide) ?_
  refine lv_iadd hx hb dL_law_1222 ?_
  refine va_sld hx hb hX hbl hbA hS (l1_vin hL7 (vp_in_iff.mpr (by decide +kernel))) dL_law_1223 ?_
  refine lv_topi (fun s2 es2 => ?_)
  have hPc := hP.sub (ws' := [(q0, .inr (4, [.ref x_q7, .int 0, .ref x_q19, .ref x_q30])), (x_q7, .inl (x_k7, 24, .inr (.inr (.inr (.inr (fun _ => none))))))]) [0, 1] rfl
  have hKc := hK.sub (tys' := [(x_k7, .object "PointRings$Curve")]) [0] rfl
  refine vp_callSi (W.runV (As := [.int s1, .int s2]) (rest := []) ⟨hx, hb, hml, hown, hts⟩ (ctX5_made_n l N dC dI  q0 x_q7 x_q19 x_q30 x_k7 0 (fun _ => none) s1 s2 (-2) rfl (l1_at N s1)) (cwV 2 hts gL1_X5_made_n rfl rfl rfl (by decide +kernel) ⟨Nat.le_of_ble_eq_true rfl, Nat.le_of_ble_eq_true rfl⟩) ⟨fun a U g mk q => by obtain ⟨q0, qP, qK, qN⟩ := q; exact ⟨q0, qP, va_K.moved (u := U) (U := U.calling g mk a) (Vm.Alike.refl U.vm) qK, nw_same (u := U) (U := U.calling g mk a) rfl qN⟩, va_recv hKc hPc (ci := 4) (q0 := 0) rfl rfl, fun U hU hW => ⟨rfl, by rw [hU]; exact hPc, va_K.moved hW.alike hKc, nw_warm hW hN⟩⟩ rfl rfl hl.1 rfl (lv_room (Nat.le_of_ble_eq_true rfl)) dL_law_1224 ⟨by decide +kernel, by decide +kernel⟩) (fun q9 eq9 => ?_)
  subst q9
  refine lv_aload_n hx hb dL_law_1227 rfl (lv_at hl 2 rfl) ?_
  refine lv_aload_n hx hb dL_law_1228 rfl (lv_at hl 0 rfl) ?_
  refine lv_iload_n hx hb dL_law_1229 rfl (lv_at hl 3 rfl) ?_
  refine lv_iconst (v := 1) hx hb dL_law_1230 (by decide) ?_
  refine lv_iadd hx hb dL_law_1231 ?_
  refine va_sld hx hb hX hbl hbA hS (l1_vin hL7 (vp_in_iff.mpr (by decide +kernel))) dL_law_1232 ?_
  rw [← es1]
  refine lv_aload_n hx hb dL_law_1233 rfl (lv_at hl 0 rfl) ?_
  refine lv_iload_n hx hb dL_law_1234 rfl (lv_at hl 3 rfl) ?_
  refine lv_iconst (v := 2) hx hb dL_law_1235 (by decide) ?_
  refine lv_iadd hx hb dL_law_1236 ?_
  refine va_sld hx hb hX hbl hbA hS (l1_vin hL7 (vp_in_iff.mpr (by decide +kernel))) dL_law_1237 ?_
  rw [← es2]
  have hPc := hP.sub (ws' := [(q8, .inr (5, [.int 0, .int 0, .int 0, .ref y_q8, .ref y_q17, .int 0, .ref y_q26, .int 0, .ref y_q35, .int 0, .ref y_q43, .ref y_q51, .ref y_q59, .ref y_q67, .ref y_q75, .ref y_q83, .ref y_q92, .ref y_q100]))]) [9] rfl
  have hKc := hK.sub (tys' := []) [] rfl
  refine vp_callSi (W.runV (As := [.int s1, .int s2]) (rest := [.int (-2)]) ⟨hx, hb, hml, hown, hts⟩ (ctX6_made_n l N dC dI  q8 y_q8 y_q17 y_q26 y_q35 y_q43 y_q51 y_q59 y_q67 y_q75 y_q83 y_q92 y_q100 0 0 0 0 0 0 s1 s2 (-2) rfl (l1_in N s1)) (cwV 2 hts gL1_X6_made_n rfl rfl rfl (by decide +kernel) ⟨Nat.le_of_ble_eq_true rfl, Nat.le_of_ble_eq_true rfl⟩) ⟨fun a U g mk q => by obtain ⟨q0, qP, qK, qN⟩ := q; exact ⟨q0, qP, va_K.moved (u := U) (U := U.calling g mk a) (Vm.Alike.refl U.vm) qK, nw_same (u := U) (U := U.calling g mk a) rfl qN⟩, va_recv hKc hPc (ci := 5) (q0 := 0) rfl rfl, fun U hU hW => ⟨rfl, by rw [hU]; exact hPc, va_K.moved hW.alike hKc, nw_warm hW hN⟩⟩ rfl rfl hl.1 rfl (lv_room (Nat.le_of_ble_eq_true rfl)) dL_law_1238 ⟨by decide +kernel, by decide +kernel⟩) (fun q9 eq9 => ?_)
  subst q9
  refine lv_icmp_eq (tgt := 1739) hx hb dL_law_1241 (by decide) (fun c137 => ?_) (fun c137 => ?_)
  · exact law1_end hL C0 hAe (by decide +kernel) (by decide +kernel) hS ls (lv_sub hl [0, 3] rfl)
  · exact absurd (rfl : (-2) = ((-2) : Int32)) c137
set_option maxHeartbeats 4000000 in
set_option maxRecDepth 100000 in
theorem law1_c27 {p : Program} {l : Launch} {e : Env} {s : State} {m : MethodId} {below : List Frame} {meth : Method} {c : Code} {b L : Nat} {xs : Nat → Int32} (hL : L ≤ 7) (hL7 : L = 7) (C0 : lw_At p s m meth c b L xs) (N : Nat) (hN1 : 20000 ≤ N) (dC : Nat → ClassId) (dI : Nat → Nat → Nat) (q0 x_q7 x_q19 x_q8_23 x_q30 x_q10_38 x_q8_14_38 x_q17_14_38 x_q22_38 q8 y_q8 y_q17 y_q26 y_q35 y_q43 y_q51 y_q59 y_q67 y_q75 y_q83 y_q92 y_q100 : Nat) (x_k7 x_k8_23 x_k8_14_38 x_k17_14_38 x_k22_38 y_k8 y_k17 y_k26 y_k35 y_k43 y_k51 y_k59 y_k67 y_k75 y_k83 y_k92 y_k100 : ClassId) {A : Nat → Prop} (hAe : A = fun q => s.heap.size ≤ q) (H : Heap) (locs : List Loc) (ls : Array Slot) (hN : nw_all s) (hK : va_K (dC, dI) vwCl [(x_k7, .object "PointRings$Curve"), (x_k8_23, .int), (x_k8_14_38, .int), (x_k17_14_38, .int), (x_k22_38, .int), (y_k8, .int), (y_k17, .int), (y_k26, .int), (y_k35, .int), (y_k43, .int), (y_k51, .int), (y_k59, .int), (y_k67, .int), (y_k75, .int), (y_k83, .int), (y_k92, .boolean), (y_k100, .boolean)] s) (hP : va_P (dC, dI) vwCl [(q0, .inr (4, [.ref x_q7, .int 0, .ref x_q19, .ref x_q30])), (x_q7, .inl (x_k7, 24, .inr (.inr (.inr (.inr (fun _ => none)))))), (x_q19, .inr (1, [.ref x_q8_23, .int 0])), (x_q8_23, .inl (x_k8_23, 10007, .inl (fun _ => 0))), (x_q30, .inr (3, [.ref x_q19, .ref x_q10_38, .ref x_q22_38])), (x_q10_38, .inr (2, [.ref x_q8_14_38, .ref x_q17_14_38, .null, .int 1, .int 0, .int (-1)])), (x_q8_14_38, .inl (x_k8_14_38, 10007, .inl (fun _ => 0))), (x_q17_14_38, .inl (x_k17_14_38, 128, .inl (fun _ => 0))), (x_q22_38, .inl (x_k22_38, 4, .inl (fun _ => 0))), (q8, .inr (5, [.int 0, .int 0, .int 0, .ref y_q8, .ref y_q17, .int 0, .ref y_q26, .int 0, .ref y_q35, .int 0, .ref y_q43, .ref y_q51, .ref y_q59, .ref y_q67, .ref y_q75, .ref y_q83, .ref y_q92, .ref y_q100])), (y_q8, .inl (y_k8, 10008, .inl (fun _ => 0))), (y_q17, .inl (y_k17, 10008, .inl (fun _ => 0))), (y_q26, .inl (y_k26, 10300, .inl (fun _ => 0))), (y_q35, .inl (y_k35, 10008, .inl (fun _ => 0))), (y_q43, .inl (y_k43, 24, .inl (fun _ => 0))), (y_q51, .inl (y_k51, 24, .inl (fun _ => 0))), (y_q59, .inl (y_k59, 24, .inl (fun _ => 0))), (y_q67, .inl (y_k67, 24, .inl (fun _ => 0))), (y_q75, .inl (y_k75, 24, .inl (fun _ => 0))), (y_q83, .inl (y_k83, 24, .inl (fun _ => 0))), (y_q92, .inl (y_k92, 10300, .inl (fun _ => 0))), (y_q100, .inl (y_k100, 64, .inl (fun _ => 0)))] H) (hD : va_D A [(q0, .inr (4, [.ref x_q7, .int 0, .ref x_q19, .ref x_q30])), (x_q7, .inl (x_k7, 24, .inr (.inr (.inr (.inr (fun _ => none)))))), (x_q19, .inr (1, [.ref x_q8_23, .int 0])), (x_q8_23, .inl (x_k8_23, 10007, .inl (fun _ => 0))), (x_q30, .inr (3, [.ref x_q19, .ref x_q10_38, .ref x_q22_38])), (x_q10_38, .inr (2, [.ref x_q8_14_38, .ref x_q17_14_38, .null, .int 1, .int 0, .int (-1)])), (x_q8_14_38, .inl (x_k8_14_38, 10007, .inl (fun _ => 0))), (x_q17_14_38, .inl (x_k17_14_38, 128, .inl (fun _ => 0))), (x_q22_38, .inl (x_k22_38, 4, .inl (fun _ => 0))), (q8, .inr (5, [.int 0, .int 0, .int 0, .ref y_q8, .ref y_q17, .int 0, .ref y_q26, .int 0, .ref y_q35, .int 0, .ref y_q43, .ref y_q51, .ref y_q59, .ref y_q67, .ref y_q75, .ref y_q83, .ref y_q92, .ref y_q100])), (y_q8, .inl (y_k8, 10008, .inl (fun _ => 0))), (y_q17, .inl (y_k17, 10008, .inl (fun _ => 0))), (y_q26, .inl (y_k26, 10300, .inl (fun _ => 0))), (y_q35, .inl (y_k35, 10008, .inl (fun _ => 0))), (y_q43, .inl (y_k43, 24, .inl (fun _ => 0))), (y_q51, .inl (y_k51, 24, .inl (fun _ => 0))), (y_q59, .inl (y_k59, 24, .inl (fun _ => 0))), (y_q67, .inl (y_k67, 24, .inl (fun _ => 0))), (y_q75, .inl (y_k75, 24, .inl (fun _ => 0))), (y_q83, .inl (y_k83, 24, .inl (fun _ => 0))), (y_q92, .inl (y_k92, 10300, .inl (fun _ => 0))), (y_q100, .inl (y_k100, 64, .inl (fun _ => 0)))]) (hS : va_S A s.heap H locs) (hl : lv_has ls 4 [(0, .ref b), (1, .ref q0), (2, .ref q8), (3, .int 0)]) : W p l e room_1 s m #[Value.ref b] below meth c H locs 22 71035 (lw_Z below #[Value.ref b] s) (F0 m 1246 ls []) := by
  obtain ⟨hx, hb, hr, hml, hown, hts, hX, hbl, hlocks, hgv⟩ := id C0
  have hbA : ¬ A b := by rw [hAe]; exact Nat.not_le.mpr hbl
  have hA0 : ∀ q : Nat, s.heap.size ≤ q → A q := fun q h => by rw [hAe]; exact h
  refine lv_aload_n hx hb dL_law_1246 rfl (lv_at hl 1 rfl) ?_
  refine lv_aload_n hx hb dL_law_1247 rfl (lv_at hl 0 rfl) ?_
  refine lv_iload_n hx hb dL_law_1248 rfl (lv_at hl 3 rfl) ?_
  refine lv_iconst (v := 1) hx hb dL_law_1249 (by decide) ?_
  refine lv_iadd hx hb dL_law_1250 ?_
  refine va_sld hx hb hX hbl hbA hS (l1_vin hL7 (vp_in_iff.mpr (by decide +kernel))) dL_law_1251 ?_
  refine lv_topi (fun s1 es1 => ?_)
  refine lv_aload_n hx hb dL_law_1252 rfl (lv_at hl 0 rfl) ?_
  refine lv_iload_n hx hb dL_law_1253 rfl (lv_at hl 3 rfl) ?_
  refine lv_iconst (v := 2) hx hb dL_law_1254 (by decide) ?_
  refine lv_iadd hx hb dL_law_1255 ?_
  refine va_sld hx hb hX hbl hbA hS (l1_vin hL7 (vp_in_iff.mpr (by decide +kernel))) dL_law_1256 ?_
  refine lv_topi (fun s2 es2 => ?_)
  have hPc := hP.sub (ws' := [(q0, .inr (4, [.ref x_q7, .int 0, .ref x_q19, .ref x_q30])), (x_q7, .inl (x_k7, 24, .inr (.inr (.inr (.inr (fun _ => none))))))]) [0, 1] rfl
  have hKc := hK.sub (tys' := [(x_k7, .object "PointRings$Curve")]) [0] rfl
  refine vp_callSi (W.runV (As := [.int s1, .int s2]) (rest := []) ⟨hx, hb, hml, hown, hts⟩ (ctX5_halves_n l N dC dI  q0 x_q7 x_q19 x_q30 x_k7 0 (fun _ => none) s1 s2 (-2) rfl (l1_at N s1)) (cwV 2 hts gL1_X5_halves_n rfl rfl rfl (by decide +kernel) ⟨Nat.le_of_ble_eq_true rfl, Nat.le_of_ble_eq_true rfl⟩) ⟨fun a U g mk q => by obtain ⟨q0, qP, qK, qN⟩ := q; exact ⟨q0, qP, va_K.moved (u := U) (U := U.calling g mk a) (Vm.Alike.refl U.vm) qK, nw_same (u := U) (U := U.calling g mk a) rfl qN⟩, va_recv hKc hPc (ci := 4) (q0 := 0) rfl rfl, fun U hU hW => ⟨rfl, by rw [hU]; exact hPc, va_K.moved hW.alike hKc, nw_warm hW hN⟩⟩ rfl rfl hl.1 rfl (lv_room (Nat.le_of_ble_eq_true rfl)) dL_law_1257 ⟨by decide +kernel, by decide +kernel⟩) (fun q9 eq9 => ?_)
  subst q9
  refine lv_aload_n hx hb dL_law_1260 rfl (lv_at hl 2 rfl) ?_
  refine lv_aload_n hx hb dL_law_1261 rfl (lv_at hl 0 rfl) ?_
  refine lv_iload_n hx hb dL_law_1262 rfl (lv_at hl 3 rfl) ?_
  refine lv_iconst (v := 1) hx hb dL_law_1263 (by decide) ?_
  refine lv_iadd hx hb dL_law_1264 ?_
  refine va_sld hx hb hX hbl hbA hS (l1_vin hL7 (vp_in_iff.mpr (by decide +kernel))) dL_law_1265 ?_
  rw [← es1]
  refine lv_aload_n hx hb dL_law_1266 rfl (lv_at hl 0 rfl) ?_
  refine lv_iload_n hx hb dL_law_1267 rfl (lv_at hl 3 rfl) ?_
  refine lv_iconst (v := 2) hx hb dL_law_1268 (by decide) ?_
  refine lv_iadd hx hb dL_law_1269 ?_
  refine va_sld hx hb hX hbl hbA hS (l1_vin hL7 (vp_in_iff.mpr (by decide +kernel))) dL_law_1270 ?_
  rw [← es2]
  have hPc := hP.sub (ws' := [(q8, .inr (5, [.int 0, .int 0, .int 0, .ref y_q8, .ref y_q17, .int 0, .ref y_q26, .int 0, .ref y_q35, .int 0, .ref y_q43, .ref y_q51, .ref y_q59, .ref y_q67, .ref y_q75, .ref y_q83, .ref y_q92, .ref y_q100]))]) [9] rfl
  have hKc := hK.sub (tys' := []) [] rfl
  refine vp_callSi (W.runV (As := [.int s1, .int s2]) (rest := [.int (-2)]) ⟨hx, hb, hml, hown, hts⟩ (ctX6_halves_n l N dC dI  q8 y_q8 y_q17 y_q26 y_q35 y_q43 y_q51 y_q59 y_q67 y_q75 y_q83 y_q92 y_q100 0 0 0 0 0 0 s1 s2 (-2) rfl (l1_in N s1)) (cwV 2 hts gL1_X6_halves_n rfl rfl rfl (by decide +kernel) ⟨Nat.le_of_ble_eq_true rfl, Nat.le_of_ble_eq_true rfl⟩) ⟨fun a U g mk q => by obtain ⟨q0, qP, qK, qN⟩ := q; exact ⟨q0, qP, va_K.moved (u := U) (U := U.calling g mk a) (Vm.Alike.refl U.vm) qK, nw_same (u := U) (U := U.calling g mk a) rfl qN⟩, va_recv hKc hPc (ci := 5) (q0 := 0) rfl rfl, fun U hU hW => ⟨rfl, by rw [hU]; exact hPc, va_K.moved hW.alike hKc, nw_warm hW hN⟩⟩ rfl rfl hl.1 rfl (lv_room (Nat.le_of_ble_eq_true rfl)) dL_law_1271 ⟨by decide +kernel, by decide +kernel⟩) (fun q9 eq9 => ?_)
  subst q9
  refine lv_icmp_eq (tgt := 1739) hx hb dL_law_1274 (by decide) (fun c140 => ?_) (fun c140 => ?_)
  · exact law1_end hL C0 hAe (by decide +kernel) (by decide +kernel) hS ls (lv_sub hl [0, 3] rfl)
  · exact absurd (rfl : (-2) = ((-2) : Int32)) c140
set_option maxHeartbeats 4000000 in
set_option maxRecDepth 100000 in
theorem law1_c28 {p : Program} {l : Launch} {e : Env} {s : State} {m : MethodId} {below : List Frame} {meth : Method} {c : Code} {b L : Nat} {xs : Nat → Int32} (hL : L ≤ 7) (hL7 : L = 7) (C0 : lw_At p s m meth c b L xs) (N : Nat) (hN1 : 20000 ≤ N) (dC : Nat → ClassId) (dI : Nat → Nat → Nat) (q0 x_q7 x_q19 x_q8_23 x_q30 x_q10_38 x_q8_14_38 x_q17_14_38 x_q22_38 q8 y_q8 y_q17 y_q26 y_q35 y_q43 y_q51 y_q59 y_q67 y_q75 y_q83 y_q92 y_q100 : Nat) (x_k7 x_k8_23 x_k8_14_38 x_k17_14_38 x_k22_38 y_k8 y_k17 y_k26 y_k35 y_k43 y_k51 y_k59 y_k67 y_k75 y_k83 y_k92 y_k100 : ClassId) {A : Nat → Prop} (hAe : A = fun q => s.heap.size ≤ q) (H : Heap) (locs : List Loc) (ls : Array Slot) (hN : nw_all s) (hK : va_K (dC, dI) vwCl [(x_k7, .object "PointRings$Curve"), (x_k8_23, .int), (x_k8_14_38, .int), (x_k17_14_38, .int), (x_k22_38, .int), (y_k8, .int), (y_k17, .int), (y_k26, .int), (y_k35, .int), (y_k43, .int), (y_k51, .int), (y_k59, .int), (y_k67, .int), (y_k75, .int), (y_k83, .int), (y_k92, .boolean), (y_k100, .boolean)] s) (hP : va_P (dC, dI) vwCl [(q0, .inr (4, [.ref x_q7, .int 0, .ref x_q19, .ref x_q30])), (x_q7, .inl (x_k7, 24, .inr (.inr (.inr (.inr (fun _ => none)))))), (x_q19, .inr (1, [.ref x_q8_23, .int 0])), (x_q8_23, .inl (x_k8_23, 10007, .inl (fun _ => 0))), (x_q30, .inr (3, [.ref x_q19, .ref x_q10_38, .ref x_q22_38])), (x_q10_38, .inr (2, [.ref x_q8_14_38, .ref x_q17_14_38, .null, .int 1, .int 0, .int (-1)])), (x_q8_14_38, .inl (x_k8_14_38, 10007, .inl (fun _ => 0))), (x_q17_14_38, .inl (x_k17_14_38, 128, .inl (fun _ => 0))), (x_q22_38, .inl (x_k22_38, 4, .inl (fun _ => 0))), (q8, .inr (5, [.int 0, .int 0, .int 0, .ref y_q8, .ref y_q17, .int 0, .ref y_q26, .int 0, .ref y_q35, .int 0, .ref y_q43, .ref y_q51, .ref y_q59, .ref y_q67, .ref y_q75, .ref y_q83, .ref y_q92, .ref y_q100])), (y_q8, .inl (y_k8, 10008, .inl (fun _ => 0))), (y_q17, .inl (y_k17, 10008, .inl (fun _ => 0))), (y_q26, .inl (y_k26, 10300, .inl (fun _ => 0))), (y_q35, .inl (y_k35, 10008, .inl (fun _ => 0))), (y_q43, .inl (y_k43, 24, .inl (fun _ => 0))), (y_q51, .inl (y_k51, 24, .inl (fun _ => 0))), (y_q59, .inl (y_k59, 24, .inl (fun _ => 0))), (y_q67, .inl (y_k67, 24, .inl (fun _ => 0))), (y_q75, .inl (y_k75, 24, .inl (fun _ => 0))), (y_q83, .inl (y_k83, 24, .inl (fun _ => 0))), (y_q92, .inl (y_k92, 10300, .inl (fun _ => 0))), (y_q100, .inl (y_k100, 64, .inl (fun _ => 0)))] H) (hD : va_D A [(q0, .inr (4, [.ref x_q7, .int 0, .ref x_q19, .ref x_q30])), (x_q7, .inl (x_k7, 24, .inr (.inr (.inr (.inr (fun _ => none)))))), (x_q19, .inr (1, [.ref x_q8_23, .int 0])), (x_q8_23, .inl (x_k8_23, 10007, .inl (fun _ => 0))), (x_q30, .inr (3, [.ref x_q19, .ref x_q10_38, .ref x_q22_38])), (x_q10_38, .inr (2, [.ref x_q8_14_38, .ref x_q17_14_38, .null, .int 1, .int 0, .int (-1)])), (x_q8_14_38, .inl (x_k8_14_38, 10007, .inl (fun _ => 0))), (x_q17_14_38, .inl (x_k17_14_38, 128, .inl (fun _ => 0))), (x_q22_38, .inl (x_k22_38, 4, .inl (fun _ => 0))), (q8, .inr (5, [.int 0, .int 0, .int 0, .ref y_q8, .ref y_q17, .int 0, .ref y_q26, .int 0, .ref y_q35, .int 0, .ref y_q43, .ref y_q51, .ref y_q59, .ref y_q67, .ref y_q75, .ref y_q83, .ref y_q92, .ref y_q100])), (y_q8, .inl (y_k8, 10008, .inl (fun _ => 0))), (y_q17, .inl (y_k17, 10008, .inl (fun _ => 0))), (y_q26, .inl (y_k26, 10300, .inl (fun _ => 0))), (y_q35, .inl (y_k35, 10008, .inl (fun _ => 0))), (y_q43, .inl (y_k43, 24, .inl (fun _ => 0))), (y_q51, .inl (y_k51, 24, .inl (fun _ => 0))), (y_q59, .inl (y_k59, 24, .inl (fun _ => 0))), (y_q67, .inl (y_k67, 24, .inl (fun _ => 0))), (y_q75, .inl (y_k75, 24, .inl (fun _ => 0))), (y_q83, .inl (y_k83, 24, .inl (fun _ => 0))), (y_q92, .inl (y_k92, 10300, .inl (fun _ => 0))), (y_q100, .inl (y_k100, 64, .inl (fun _ => 0)))]) (hS : va_S A s.heap H locs) (hl : lv_has ls 4 [(0, .ref b), (1, .ref q0), (2, .ref q8), (3, .int 0)]) : W p l e room_1 s m #[Value.ref b] below meth c H locs 22 71035 (lw_Z below #[Value.ref b] s) (F0 m 1279 ls []) := by
  obtain ⟨hx, hb, hr, hml, hown, hts, hX, hbl, hlocks, hgv⟩ := id C0
  have hbA : ¬ A b := by rw [hAe]; exact Nat.not_le.mpr hbl
  have hA0 : ∀ q : Nat, s.heap.size ≤ q → A q := fun q h => by rw [hAe]; exact h
  refine lv_aload_n hx hb dL_law_1279 rfl (lv_at hl 1 rfl) ?_
  refine lv_aload_n hx hb dL_law_1280 rfl (lv_at hl 0 rfl) ?_
  refine lv_iload_n hx hb dL_law_1281 rfl (lv_at hl 3 rfl) ?_
  refine lv_iconst (v := 1) hx hb dL_law_1282 (by decide) ?_
  refine lv_iadd hx hb dL_law_1283 ?_
  refine va_sld hx hb hX hbl hbA hS (l1_vin hL7 (vp_in_iff.mpr (by decide +kernel))) dL_law_1284 ?_
  refine lv_topi (fun s1 es1 => ?_)
  refine lv_aload_n hx hb dL_law_1285 rfl (lv_at hl 0 rfl) ?_
  refine lv_iload_n hx hb dL_law_1286 rfl (lv_at hl 3 rfl) ?_
  refine lv_iconst (v := 2) hx hb dL_law_1287 (by decide) ?_
  refine lv_iadd hx hb dL_law_1288 ?_
  refine va_sld hx hb hX hbl hbA hS (l1_vin hL7 (vp_in_iff.mpr (by decide +kernel))) dL_law_1289 ?_
  refine lv_topi (fun s2 es2 => ?_)
  refine lv_aload_n hx hb dL_law_1290 rfl (lv_at hl 0 rfl) ?_
  refine lv_iload_n hx hb dL_law_1291 rfl (lv_at hl 3 rfl) ?_
  refine lv_iconst (v := 3) hx hb dL_law_1292 (by decide) ?_
  refine lv_iadd hx hb dL_law_1293 ?_
  refine va_sld hx hb hX hbl hbA hS (l1_vin hL7 (vp_in_iff.mpr (by decide +kernel))) dL_law_1294 ?_
  refine lv_topi (fun s3 es3 => ?_)
  have hPc := hP.sub (ws' := [(q0, .inr (4, [.ref x_q7, .int 0, .ref x_q19, .ref x_q30])), (x_q7, .inl (x_k7, 24, .inr (.inr (.inr (.inr (fun _ => none))))))]) [0, 1] rfl
  have hKc := hK.sub (tys' := [(x_k7, .object "PointRings$Curve")]) [0] rfl
  refine vp_callSi (W.runV (As := [.int s1, .int s2, .int s3]) (rest := []) ⟨hx, hb, hml, hown, hts⟩ (ctX5_half_n l N dC dI  q0 x_q7 x_q19 x_q30 x_k7 0 (fun _ => none) s1 s2 s3 (-2) rfl (l1_at N s1)) (cwV 3 hts gL1_X5_half_n rfl rfl rfl (by decide +kernel) ⟨Nat.le_of_ble_eq_true rfl, Nat.le_of_ble_eq_true rfl⟩) ⟨fun a U g mk q => by obtain ⟨q0, qP, qK, qN⟩ := q; exact ⟨q0, qP, va_K.moved (u := U) (U := U.calling g mk a) (Vm.Alike.refl U.vm) qK, nw_same (u := U) (U := U.calling g mk a) rfl qN⟩, va_recv hKc hPc (ci := 4) (q0 := 0) rfl rfl, fun U hU hW => ⟨rfl, by rw [hU]; exact hPc, va_K.moved hW.alike hKc, nw_warm hW hN⟩⟩ rfl rfl hl.1 rfl (lv_room (Nat.le_of_ble_eq_true rfl)) dL_law_1295 ⟨by decide +kernel, by decide +kernel⟩) (fun q9 eq9 => ?_)
  subst q9
  refine lv_aload_n hx hb dL_law_1298 rfl (lv_at hl 2 rfl) ?_
  refine lv_aload_n hx hb dL_law_1299 rfl (lv_at hl 0 rfl) ?_
  refine lv_iload_n hx hb dL_law_1300 rfl (lv_at hl 3 rfl) ?_
  refine lv_iconst (v := 1) hx hb dL_law_1301 (by decide) ?_
  refine lv_iadd hx hb dL_law_1302 ?_
  refine va_sld hx hb hX hbl hbA hS (l1_vin hL7 (vp_in_iff.mpr (by decide +kernel))) dL_law_1303 ?_
  rw [← es1]
  refine lv_aload_n hx hb dL_law_1304 rfl (lv_at hl 0 rfl) ?_
  refine lv_iload_n hx hb dL_law_1305 rfl (lv_at hl 3 rfl) ?_
  refine lv_iconst (v := 2) hx hb dL_law_1306 (by decide) ?_
  refine lv_iadd hx hb dL_law_1307 ?_
  refine va_sld hx hb hX hbl hbA hS (l1_vin hL7 (vp_in_iff.mpr (by decide +kernel))) dL_law_1308 ?_
  rw [← es2]
  refine lv_aload_n hx hb dL_law_1309 rfl (lv_at hl 0 rfl) ?_
  refine lv_iload_n hx hb dL_law_1310 rfl (lv_at hl 3 rfl) ?_
  refine lv_iconst (v := 3) hx hb dL_law_1311 (by decide) ?_
  refine lv_iadd hx hb dL_law_1312 ?_
  refine va_sld hx hb hX hbl hbA hS (l1_vin hL7 (vp_in_iff.mpr (by decide +kernel))) dL_law_1313 ?_
  rw [← es3]
  have hPc := hP.sub (ws' := [(q8, .inr (5, [.int 0, .int 0, .int 0, .ref y_q8, .ref y_q17, .int 0, .ref y_q26, .int 0, .ref y_q35, .int 0, .ref y_q43, .ref y_q51, .ref y_q59, .ref y_q67, .ref y_q75, .ref y_q83, .ref y_q92, .ref y_q100]))]) [9] rfl
  have hKc := hK.sub (tys' := []) [] rfl
  refine vp_callSi (W.runV (As := [.int s1, .int s2, .int s3]) (rest := [.int (-2)]) ⟨hx, hb, hml, hown, hts⟩ (ctX6_half_n l N dC dI  q8 y_q8 y_q17 y_q26 y_q35 y_q43 y_q51 y_q59 y_q67 y_q75 y_q83 y_q92 y_q100 0 0 0 0 0 0 s1 s2 s3 (-2) rfl (l1_in N s1)) (cwV 3 hts gL1_X6_half_n rfl rfl rfl (by decide +kernel) ⟨Nat.le_of_ble_eq_true rfl, Nat.le_of_ble_eq_true rfl⟩) ⟨fun a U g mk q => by obtain ⟨q0, qP, qK, qN⟩ := q; exact ⟨q0, qP, va_K.moved (u := U) (U := U.calling g mk a) (Vm.Alike.refl U.vm) qK, nw_same (u := U) (U := U.calling g mk a) rfl qN⟩, va_recv hKc hPc (ci := 5) (q0 := 0) rfl rfl, fun U hU hW => ⟨rfl, by rw [hU]; exact hPc, va_K.moved hW.alike hKc, nw_warm hW hN⟩⟩ rfl rfl hl.1 rfl (lv_room (Nat.le_of_ble_eq_true rfl)) dL_law_1314 ⟨by decide +kernel, by decide +kernel⟩) (fun q9 eq9 => ?_)
  subst q9
  refine lv_icmp_eq (tgt := 1739) hx hb dL_law_1317 (by decide) (fun c143 => ?_) (fun c143 => ?_)
  · exact law1_end hL C0 hAe (by decide +kernel) (by decide +kernel) hS ls (lv_sub hl [0, 3] rfl)
  · exact absurd (rfl : (-2) = ((-2) : Int32)) c143
set_option maxHeartbeats 4000000 in
set_option maxRecDepth 100000 in
theorem law1_c29 {p : Program} {l : Launch} {e : Env} {s : State} {m : MethodId} {below : List Frame} {meth : Method} {c : Code} {b L : Nat} {xs : Nat → Int32} (hL : L ≤ 7) (hL7 : L = 7) (C0 : lw_At p s m meth c b L xs) (N : Nat) (hN1 : 20000 ≤ N) (dC : Nat → ClassId) (dI : Nat → Nat → Nat) (q0 x_q7 x_q19 x_q8_23 x_q30 x_q10_38 x_q8_14_38 x_q17_14_38 x_q22_38 q8 y_q8 y_q17 y_q26 y_q35 y_q43 y_q51 y_q59 y_q67 y_q75 y_q83 y_q92 y_q100 : Nat) (x_k7 x_k8_23 x_k8_14_38 x_k17_14_38 x_k22_38 y_k8 y_k17 y_k26 y_k35 y_k43 y_k51 y_k59 y_k67 y_k75 y_k83 y_k92 y_k100 : ClassId) {A : Nat → Prop} (hAe : A = fun q => s.heap.size ≤ q) (H : Heap) (locs : List Loc) (ls : Array Slot) (hN : nw_all s) (hK : va_K (dC, dI) vwCl [(x_k7, .object "PointRings$Curve"), (x_k8_23, .int), (x_k8_14_38, .int), (x_k17_14_38, .int), (x_k22_38, .int), (y_k8, .int), (y_k17, .int), (y_k26, .int), (y_k35, .int), (y_k43, .int), (y_k51, .int), (y_k59, .int), (y_k67, .int), (y_k75, .int), (y_k83, .int), (y_k92, .boolean), (y_k100, .boolean)] s) (hP : va_P (dC, dI) vwCl [(q0, .inr (4, [.ref x_q7, .int 0, .ref x_q19, .ref x_q30])), (x_q7, .inl (x_k7, 24, .inr (.inr (.inr (.inr (fun _ => none)))))), (x_q19, .inr (1, [.ref x_q8_23, .int 0])), (x_q8_23, .inl (x_k8_23, 10007, .inl (fun _ => 0))), (x_q30, .inr (3, [.ref x_q19, .ref x_q10_38, .ref x_q22_38])), (x_q10_38, .inr (2, [.ref x_q8_14_38, .ref x_q17_14_38, .null, .int 1, .int 0, .int (-1)])), (x_q8_14_38, .inl (x_k8_14_38, 10007, .inl (fun _ => 0))), (x_q17_14_38, .inl (x_k17_14_38, 128, .inl (fun _ => 0))), (x_q22_38, .inl (x_k22_38, 4, .inl (fun _ => 0))), (q8, .inr (5, [.int 0, .int 0, .int 0, .ref y_q8, .ref y_q17, .int 0, .ref y_q26, .int 0, .ref y_q35, .int 0, .ref y_q43, .ref y_q51, .ref y_q59, .ref y_q67, .ref y_q75, .ref y_q83, .ref y_q92, .ref y_q100])), (y_q8, .inl (y_k8, 10008, .inl (fun _ => 0))), (y_q17, .inl (y_k17, 10008, .inl (fun _ => 0))), (y_q26, .inl (y_k26, 10300, .inl (fun _ => 0))), (y_q35, .inl (y_k35, 10008, .inl (fun _ => 0))), (y_q43, .inl (y_k43, 24, .inl (fun _ => 0))), (y_q51, .inl (y_k51, 24, .inl (fun _ => 0))), (y_q59, .inl (y_k59, 24, .inl (fun _ => 0))), (y_q67, .inl (y_k67, 24, .inl (fun _ => 0))), (y_q75, .inl (y_k75, 24, .inl (fun _ => 0))), (y_q83, .inl (y_k83, 24, .inl (fun _ => 0))), (y_q92, .inl (y_k92, 10300, .inl (fun _ => 0))), (y_q100, .inl (y_k100, 64, .inl (fun _ => 0)))] H) (hD : va_D A [(q0, .inr (4, [.ref x_q7, .int 0, .ref x_q19, .ref x_q30])), (x_q7, .inl (x_k7, 24, .inr (.inr (.inr (.inr (fun _ => none)))))), (x_q19, .inr (1, [.ref x_q8_23, .int 0])), (x_q8_23, .inl (x_k8_23, 10007, .inl (fun _ => 0))), (x_q30, .inr (3, [.ref x_q19, .ref x_q10_38, .ref x_q22_38])), (x_q10_38, .inr (2, [.ref x_q8_14_38, .ref x_q17_14_38, .null, .int 1, .int 0, .int (-1)])), (x_q8_14_38, .inl (x_k8_14_38, 10007, .inl (fun _ => 0))), (x_q17_14_38, .inl (x_k17_14_38, 128, .inl (fun _ => 0))), (x_q22_38, .inl (x_k22_38, 4, .inl (fun _ => 0))), (q8, .inr (5, [.int 0, .int 0, .int 0, .ref y_q8, .ref y_q17, .int 0, .ref y_q26, .int 0, .ref y_q35, .int 0, .ref y_q43, .ref y_q51, .ref y_q59, .ref y_q67, .ref y_q75, .ref y_q83, .ref y_q92, .ref y_q100])), (y_q8, .inl (y_k8, 10008, .inl (fun _ => 0))), (y_q17, .inl (y_k17, 10008, .inl (fun _ => 0))), (y_q26, .inl (y_k26, 10300, .inl (fun _ => 0))), (y_q35, .inl (y_k35, 10008, .inl (fun _ => 0))), (y_q43, .inl (y_k43, 24, .inl (fun _ => 0))), (y_q51, .inl (y_k51, 24, .inl (fun _ => 0))), (y_q59, .inl (y_k59, 24, .inl (fun _ => 0))), (y_q67, .inl (y_k67, 24, .inl (fun _ => 0))), (y_q75, .inl (y_k75, 24, .inl (fun _ => 0))), (y_q83, .inl (y_k83, 24, .inl (fun _ => 0))), (y_q92, .inl (y_k92, 10300, .inl (fun _ => 0))), (y_q100, .inl (y_k100, 64, .inl (fun _ => 0)))]) (hS : va_S A s.heap H locs) (hl : lv_has ls 4 [(0, .ref b), (1, .ref q0), (2, .ref q8), (3, .int 0)]) : W p l e room_1 s m #[Value.ref b] below meth c H locs 22 71035 (lw_Z below #[Value.ref b] s) (F0 m 1322 ls []) := by
  obtain ⟨hx, hb, hr, hml, hown, hts, hX, hbl, hlocks, hgv⟩ := id C0
  have hbA : ¬ A b := by rw [hAe]; exact Nat.not_le.mpr hbl
  have hA0 : ∀ q : Nat, s.heap.size ≤ q → A q := fun q h => by rw [hAe]; exact h
  refine lv_aload_n hx hb dL_law_1322 rfl (lv_at hl 1 rfl) ?_
  refine lv_aload_n hx hb dL_law_1323 rfl (lv_at hl 0 rfl) ?_
  refine lv_iload_n hx hb dL_law_1324 rfl (lv_at hl 3 rfl) ?_
  refine lv_iconst (v := 1) hx hb dL_law_1325 (by decide) ?_
  refine lv_iadd hx hb dL_law_1326 ?_
  refine va_sld hx hb hX hbl hbA hS (l1_vin hL7 (vp_in_iff.mpr (by decide +kernel))) dL_law_1327 ?_
  refine lv_topi (fun s1 es1 => ?_)
  refine lv_aload_n hx hb dL_law_1328 rfl (lv_at hl 0 rfl) ?_
  refine lv_iload_n hx hb dL_law_1329 rfl (lv_at hl 3 rfl) ?_
  refine lv_iconst (v := 2) hx hb dL_law_1330 (by decide) ?_
  refine lv_iadd hx hb dL_law_1331 ?_
  refine va_sld hx hb hX hbl hbA hS (l1_vin hL7 (vp_in_iff.mpr (by decide +kernel))) dL_law_1332 ?_
  refine lv_topi (fun s2 es2 => ?_)
  refine lv_aload_n hx hb dL_law_1333 rfl (lv_at hl 0 rfl) ?_
  refine lv_iload_n hx hb dL_law_1334 rfl (lv_at hl 3 rfl) ?_
  refine lv_iconst (v := 3) hx hb dL_law_1335 (by decide) ?_
  refine lv_iadd hx hb dL_law_1336 ?_
  refine va_sld hx hb hX hbl hbA hS (l1_vin hL7 (vp_in_iff.mpr (by decide +kernel))) dL_law_1337 ?_
  refine lv_topi (fun s3 es3 => ?_)
  have hPc := hP.sub (ws' := [(q0, .inr (4, [.ref x_q7, .int 0, .ref x_q19, .ref x_q30])), (x_q7, .inl (x_k7, 24, .inr (.inr (.inr (.inr (fun _ => none))))))]) [0, 1] rfl
  have hKc := hK.sub (tys' := [(x_k7, .object "PointRings$Curve")]) [0] rfl
  refine vp_callSi (W.runV (As := [.int s1, .int s2, .int s3]) (rest := []) ⟨hx, hb, hml, hown, hts⟩ (ctX5_log_n l N dC dI  q0 x_q7 x_q19 x_q30 x_k7 0 (fun _ => none) s1 s2 s3 (-2) rfl (l1_at N s1)) (cwV 3 hts gL1_X5_log_n rfl rfl rfl (by decide +kernel) ⟨Nat.le_of_ble_eq_true rfl, Nat.le_of_ble_eq_true rfl⟩) ⟨fun a U g mk q => by obtain ⟨q0, qP, qK, qN⟩ := q; exact ⟨q0, qP, va_K.moved (u := U) (U := U.calling g mk a) (Vm.Alike.refl U.vm) qK, nw_same (u := U) (U := U.calling g mk a) rfl qN⟩, va_recv hKc hPc (ci := 4) (q0 := 0) rfl rfl, fun U hU hW => ⟨rfl, by rw [hU]; exact hPc, va_K.moved hW.alike hKc, nw_warm hW hN⟩⟩ rfl rfl hl.1 rfl (lv_room (Nat.le_of_ble_eq_true rfl)) dL_law_1338 ⟨by decide +kernel, by decide +kernel⟩) (fun q9 eq9 => ?_)
  subst q9
  refine lv_aload_n hx hb dL_law_1341 rfl (lv_at hl 2 rfl) ?_
  refine lv_aload_n hx hb dL_law_1342 rfl (lv_at hl 0 rfl) ?_
  refine lv_iload_n hx hb dL_law_1343 rfl (lv_at hl 3 rfl) ?_
  refine lv_iconst (v := 1) hx hb dL_law_1344 (by decide) ?_
  refine lv_iadd hx hb dL_law_1345 ?_
  refine va_sld hx hb hX hbl hbA hS (l1_vin hL7 (vp_in_iff.mpr (by decide +kernel))) dL_law_1346 ?_
  rw [← es1]
  refine lv_aload_n hx hb dL_law_1347 rfl (lv_at hl 0 rfl) ?_
  refine lv_iload_n hx hb dL_law_1348 rfl (lv_at hl 3 rfl) ?_
  refine lv_iconst (v := 2) hx hb dL_law_1349 (by decide) ?_
  refine lv_iadd hx hb dL_law_1350 ?_
  refine va_sld hx hb hX hbl hbA hS (l1_vin hL7 (vp_in_iff.mpr (by decide +kernel))) dL_law_1351 ?_
  rw [← es2]
  refine lv_aload_n hx hb dL_law_1352 rfl (lv_at hl 0 rfl) ?_
  refine lv_iload_n hx hb dL_law_1353 rfl (lv_at hl 3 rfl) ?_
  refine lv_iconst (v := 3) hx hb dL_law_1354 (by decide) ?_
  refine lv_iadd hx hb dL_law_1355 ?_
  refine va_sld hx hb hX hbl hbA hS (l1_vin hL7 (vp_in_iff.mpr (by decide +kernel))) dL_law_1356 ?_
  rw [← es3]
  have hPc := hP.sub (ws' := [(q8, .inr (5, [.int 0, .int 0, .int 0, .ref y_q8, .ref y_q17, .int 0, .ref y_q26, .int 0, .ref y_q35, .int 0, .ref y_q43, .ref y_q51, .ref y_q59, .ref y_q67, .ref y_q75, .ref y_q83, .ref y_q92, .ref y_q100]))]) [9] rfl
  have hKc := hK.sub (tys' := []) [] rfl
  refine vp_callSi (W.runV (As := [.int s1, .int s2, .int s3]) (rest := [.int (-2)]) ⟨hx, hb, hml, hown, hts⟩ (ctX6_log_n l N dC dI  q8 y_q8 y_q17 y_q26 y_q35 y_q43 y_q51 y_q59 y_q67 y_q75 y_q83 y_q92 y_q100 0 0 0 0 0 0 s1 s2 s3 (-2) rfl (l1_in N s1)) (cwV 3 hts gL1_X6_log_n rfl rfl rfl (by decide +kernel) ⟨Nat.le_of_ble_eq_true rfl, Nat.le_of_ble_eq_true rfl⟩) ⟨fun a U g mk q => by obtain ⟨q0, qP, qK, qN⟩ := q; exact ⟨q0, qP, va_K.moved (u := U) (U := U.calling g mk a) (Vm.Alike.refl U.vm) qK, nw_same (u := U) (U := U.calling g mk a) rfl qN⟩, va_recv hKc hPc (ci := 5) (q0 := 0) rfl rfl, fun U hU hW => ⟨rfl, by rw [hU]; exact hPc, va_K.moved hW.alike hKc, nw_warm hW hN⟩⟩ rfl rfl hl.1 rfl (lv_room (Nat.le_of_ble_eq_true rfl)) dL_law_1357 ⟨by decide +kernel, by decide +kernel⟩) (fun q9 eq9 => ?_)
  subst q9
  refine lv_icmp_eq (tgt := 1739) hx hb dL_law_1360 (by decide) (fun c146 => ?_) (fun c146 => ?_)
  · exact law1_end hL C0 hAe (by decide +kernel) (by decide +kernel) hS ls (lv_sub hl [0, 3] rfl)
  · exact absurd (rfl : (-2) = ((-2) : Int32)) c146
set_option maxHeartbeats 4000000 in
set_option maxRecDepth 100000 in
theorem law1_c30 {p : Program} {l : Launch} {e : Env} {s : State} {m : MethodId} {below : List Frame} {meth : Method} {c : Code} {b L : Nat} {xs : Nat → Int32} (hL : L ≤ 7) (hL7 : L = 7) (C0 : lw_At p s m meth c b L xs) (N : Nat) (hN1 : 20000 ≤ N) (dC : Nat → ClassId) (dI : Nat → Nat → Nat) (q0 x_q7 x_q19 x_q8_23 x_q30 x_q10_38 x_q8_14_38 x_q17_14_38 x_q22_38 q8 y_q8 y_q17 y_q26 y_q35 y_q43 y_q51 y_q59 y_q67 y_q75 y_q83 y_q92 y_q100 : Nat) (x_k7 x_k8_23 x_k8_14_38 x_k17_14_38 x_k22_38 y_k8 y_k17 y_k26 y_k35 y_k43 y_k51 y_k59 y_k67 y_k75 y_k83 y_k92 y_k100 : ClassId) {A : Nat → Prop} (hAe : A = fun q => s.heap.size ≤ q) (H : Heap) (locs : List Loc) (ls : Array Slot) (hN : nw_all s) (hK : va_K (dC, dI) vwCl [(x_k7, .object "PointRings$Curve"), (x_k8_23, .int), (x_k8_14_38, .int), (x_k17_14_38, .int), (x_k22_38, .int), (y_k8, .int), (y_k17, .int), (y_k26, .int), (y_k35, .int), (y_k43, .int), (y_k51, .int), (y_k59, .int), (y_k67, .int), (y_k75, .int), (y_k83, .int), (y_k92, .boolean), (y_k100, .boolean)] s) (hP : va_P (dC, dI) vwCl [(q0, .inr (4, [.ref x_q7, .int 0, .ref x_q19, .ref x_q30])), (x_q7, .inl (x_k7, 24, .inr (.inr (.inr (.inr (fun _ => none)))))), (x_q19, .inr (1, [.ref x_q8_23, .int 0])), (x_q8_23, .inl (x_k8_23, 10007, .inl (fun _ => 0))), (x_q30, .inr (3, [.ref x_q19, .ref x_q10_38, .ref x_q22_38])), (x_q10_38, .inr (2, [.ref x_q8_14_38, .ref x_q17_14_38, .null, .int 1, .int 0, .int (-1)])), (x_q8_14_38, .inl (x_k8_14_38, 10007, .inl (fun _ => 0))), (x_q17_14_38, .inl (x_k17_14_38, 128, .inl (fun _ => 0))), (x_q22_38, .inl (x_k22_38, 4, .inl (fun _ => 0))), (q8, .inr (5, [.int 0, .int 0, .int 0, .ref y_q8, .ref y_q17, .int 0, .ref y_q26, .int 0, .ref y_q35, .int 0, .ref y_q43, .ref y_q51, .ref y_q59, .ref y_q67, .ref y_q75, .ref y_q83, .ref y_q92, .ref y_q100])), (y_q8, .inl (y_k8, 10008, .inl (fun _ => 0))), (y_q17, .inl (y_k17, 10008, .inl (fun _ => 0))), (y_q26, .inl (y_k26, 10300, .inl (fun _ => 0))), (y_q35, .inl (y_k35, 10008, .inl (fun _ => 0))), (y_q43, .inl (y_k43, 24, .inl (fun _ => 0))), (y_q51, .inl (y_k51, 24, .inl (fun _ => 0))), (y_q59, .inl (y_k59, 24, .inl (fun _ => 0))), (y_q67, .inl (y_k67, 24, .inl (fun _ => 0))), (y_q75, .inl (y_k75, 24, .inl (fun _ => 0))), (y_q83, .inl (y_k83, 24, .inl (fun _ => 0))), (y_q92, .inl (y_k92, 10300, .inl (fun _ => 0))), (y_q100, .inl (y_k100, 64, .inl (fun _ => 0)))] H) (hD : va_D A [(q0, .inr (4, [.ref x_q7, .int 0, .ref x_q19, .ref x_q30])), (x_q7, .inl (x_k7, 24, .inr (.inr (.inr (.inr (fun _ => none)))))), (x_q19, .inr (1, [.ref x_q8_23, .int 0])), (x_q8_23, .inl (x_k8_23, 10007, .inl (fun _ => 0))), (x_q30, .inr (3, [.ref x_q19, .ref x_q10_38, .ref x_q22_38])), (x_q10_38, .inr (2, [.ref x_q8_14_38, .ref x_q17_14_38, .null, .int 1, .int 0, .int (-1)])), (x_q8_14_38, .inl (x_k8_14_38, 10007, .inl (fun _ => 0))), (x_q17_14_38, .inl (x_k17_14_38, 128, .inl (fun _ => 0))), (x_q22_38, .inl (x_k22_38, 4, .inl (fun _ => 0))), (q8, .inr (5, [.int 0, .int 0, .int 0, .ref y_q8, .ref y_q17, .int 0, .ref y_q26, .int 0, .ref y_q35, .int 0, .ref y_q43, .ref y_q51, .ref y_q59, .ref y_q67, .ref y_q75, .ref y_q83, .ref y_q92, .ref y_q100])), (y_q8, .inl (y_k8, 10008, .inl (fun _ => 0))), (y_q17, .inl (y_k17, 10008, .inl (fun _ => 0))), (y_q26, .inl (y_k26, 10300, .inl (fun _ => 0))), (y_q35, .inl (y_k35, 10008, .inl (fun _ => 0))), (y_q43, .inl (y_k43, 24, .inl (fun _ => 0))), (y_q51, .inl (y_k51, 24, .inl (fun _ => 0))), (y_q59, .inl (y_k59, 24, .inl (fun _ => 0))), (y_q67, .inl (y_k67, 24, .inl (fun _ => 0))), (y_q75, .inl (y_k75, 24, .inl (fun _ => 0))), (y_q83, .inl (y_k83, 24, .inl (fun _ => 0))), (y_q92, .inl (y_k92, 10300, .inl (fun _ => 0))), (y_q100, .inl (y_k100, 64, .inl (fun _ => 0)))]) (hS : va_S A s.heap H locs) (hl : lv_has ls 4 [(0, .ref b), (1, .ref q0), (2, .ref q8), (3, .int 0)]) : W p l e room_1 s m #[Value.ref b] below meth c H locs 22 71035 (lw_Z below #[Value.ref b] s) (F0 m 1365 ls []) := by
  obtain ⟨hx, hb, hr, hml, hown, hts, hX, hbl, hlocks, hgv⟩ := id C0
  have hbA : ¬ A b := by rw [hAe]; exact Nat.not_le.mpr hbl
  have hA0 : ∀ q : Nat, s.heap.size ≤ q → A q := fun q h => by rw [hAe]; exact h
  refine lv_aload_n hx hb dL_law_1365 rfl (lv_at hl 1 rfl) ?_
  refine lv_aload_n hx hb dL_law_1366 rfl (lv_at hl 0 rfl) ?_
  refine lv_iload_n hx hb dL_law_1367 rfl (lv_at hl 3 rfl) ?_
  refine lv_iconst (v := 1) hx hb dL_law_1368 (by decide) ?_
  refine lv_iadd hx hb dL_law_1369 ?_
  refine va_sld hx hb hX hbl hbA hS (l1_vin hL7 (vp_in_iff.mpr (by decide +kernel))) dL_law_1370 ?_
  refine lv_topi (fun s1 es1 => ?_)
  refine lv_aload_n hx hb dL_law_1371 rfl (lv_at hl 0 rfl) ?_
  refine lv_iload_n hx hb dL_law_1372 rfl (lv_at hl 3 rfl) ?_
  refine lv_iconst (v := 2) hx hb dL_law_1373 (by decide) ?_
  refine lv_iadd hx hb dL_law_1374 ?_
  refine va_sld hx hb hX hbl hbA hS (l1_vin hL7 (vp_in_iff.mpr (by decide +kernel))) dL_law_1375 ?_
  refine lv_topi (fun s2 es2 => ?_)
  have hPc := hP.sub (ws' := [(q0, .inr (4, [.ref x_q7, .int 0, .ref x_q19, .ref x_q30])), (x_q7, .inl (x_k7, 24, .inr (.inr (.inr (.inr (fun _ => none))))))]) [0, 1] rfl
  have hKc := hK.sub (tys' := [(x_k7, .object "PointRings$Curve")]) [0] rfl
  refine vp_callSi (W.runV (As := [.int s1, .int s2]) (rest := []) ⟨hx, hb, hml, hown, hts⟩ (ctX5_embedding_n l N dC dI  q0 x_q7 x_q19 x_q30 x_k7 0 (fun _ => none) s1 s2 (-2) rfl (l1_at N s1)) (cwV 2 hts gL1_X5_embedding_n rfl rfl rfl (by decide +kernel) ⟨Nat.le_of_ble_eq_true rfl, Nat.le_of_ble_eq_true rfl⟩) ⟨fun a U g mk q => by obtain ⟨q0, qP, qK, qN⟩ := q; exact ⟨q0, qP, va_K.moved (u := U) (U := U.calling g mk a) (Vm.Alike.refl U.vm) qK, nw_same (u := U) (U := U.calling g mk a) rfl qN⟩, va_recv hKc hPc (ci := 4) (q0 := 0) rfl rfl, fun U hU hW => ⟨rfl, by rw [hU]; exact hPc, va_K.moved hW.alike hKc, nw_warm hW hN⟩⟩ rfl rfl hl.1 rfl (lv_room (Nat.le_of_ble_eq_true rfl)) dL_law_1376 ⟨by decide +kernel, by decide +kernel⟩) (fun q9 eq9 => ?_)
  subst q9
  refine lv_aload_n hx hb dL_law_1379 rfl (lv_at hl 2 rfl) ?_
  refine lv_aload_n hx hb dL_law_1380 rfl (lv_at hl 0 rfl) ?_
  refine lv_iload_n hx hb dL_law_1381 rfl (lv_at hl 3 rfl) ?_
  refine lv_iconst (v := 1) hx hb dL_law_1382 (by decide) ?_
  refine lv_iadd hx hb dL_law_1383 ?_
  refine va_sld hx hb hX hbl hbA hS (l1_vin hL7 (vp_in_iff.mpr (by decide +kernel))) dL_law_1384 ?_
  rw [← es1]
  refine lv_aload_n hx hb dL_law_1385 rfl (lv_at hl 0 rfl) ?_
  refine lv_iload_n hx hb dL_law_1386 rfl (lv_at hl 3 rfl) ?_
  refine lv_iconst (v := 2) hx hb dL_law_1387 (by decide) ?_
  refine lv_iadd hx hb dL_law_1388 ?_
  refine va_sld hx hb hX hbl hbA hS (l1_vin hL7 (vp_in_iff.mpr (by decide +kernel))) dL_law_1389 ?_
  rw [← es2]
  have hPc := hP.sub (ws' := [(q8, .inr (5, [.int 0, .int 0, .int 0, .ref y_q8, .ref y_q17, .int 0, .ref y_q26, .int 0, .ref y_q35, .int 0, .ref y_q43, .ref y_q51, .ref y_q59, .ref y_q67, .ref y_q75, .ref y_q83, .ref y_q92, .ref y_q100]))]) [9] rfl
  have hKc := hK.sub (tys' := []) [] rfl
  refine vp_callSi (W.runV (As := [.int s1, .int s2]) (rest := [.int (-2)]) ⟨hx, hb, hml, hown, hts⟩ (ctX6_embedding_n l N dC dI  q8 y_q8 y_q17 y_q26 y_q35 y_q43 y_q51 y_q59 y_q67 y_q75 y_q83 y_q92 y_q100 0 0 0 0 0 0 s1 s2 (-2) rfl (l1_in N s1)) (cwV 2 hts gL1_X6_embedding_n rfl rfl rfl (by decide +kernel) ⟨Nat.le_of_ble_eq_true rfl, Nat.le_of_ble_eq_true rfl⟩) ⟨fun a U g mk q => by obtain ⟨q0, qP, qK, qN⟩ := q; exact ⟨q0, qP, va_K.moved (u := U) (U := U.calling g mk a) (Vm.Alike.refl U.vm) qK, nw_same (u := U) (U := U.calling g mk a) rfl qN⟩, va_recv hKc hPc (ci := 5) (q0 := 0) rfl rfl, fun U hU hW => ⟨rfl, by rw [hU]; exact hPc, va_K.moved hW.alike hKc, nw_warm hW hN⟩⟩ rfl rfl hl.1 rfl (lv_room (Nat.le_of_ble_eq_true rfl)) dL_law_1390 ⟨by decide +kernel, by decide +kernel⟩) (fun q9 eq9 => ?_)
  subst q9
  refine lv_icmp_eq (tgt := 1739) hx hb dL_law_1393 (by decide) (fun c149 => ?_) (fun c149 => ?_)
  · exact law1_end hL C0 hAe (by decide +kernel) (by decide +kernel) hS ls (lv_sub hl [0, 3] rfl)
  · exact absurd (rfl : (-2) = ((-2) : Int32)) c149
set_option maxHeartbeats 4000000 in
set_option maxRecDepth 100000 in
theorem law1_c31 {p : Program} {l : Launch} {e : Env} {s : State} {m : MethodId} {below : List Frame} {meth : Method} {c : Code} {b L : Nat} {xs : Nat → Int32} (hL : L ≤ 7) (hL7 : L = 7) (C0 : lw_At p s m meth c b L xs) (N : Nat) (hN1 : 20000 ≤ N) (dC : Nat → ClassId) (dI : Nat → Nat → Nat) (q0 x_q7 x_q19 x_q8_23 x_q30 x_q10_38 x_q8_14_38 x_q17_14_38 x_q22_38 q8 y_q8 y_q17 y_q26 y_q35 y_q43 y_q51 y_q59 y_q67 y_q75 y_q83 y_q92 y_q100 : Nat) (x_k7 x_k8_23 x_k8_14_38 x_k17_14_38 x_k22_38 y_k8 y_k17 y_k26 y_k35 y_k43 y_k51 y_k59 y_k67 y_k75 y_k83 y_k92 y_k100 : ClassId) {A : Nat → Prop} (hAe : A = fun q => s.heap.size ≤ q) (H : Heap) (locs : List Loc) (ls : Array Slot) (hN : nw_all s) (hK : va_K (dC, dI) vwCl [(x_k7, .object "PointRings$Curve"), (x_k8_23, .int), (x_k8_14_38, .int), (x_k17_14_38, .int), (x_k22_38, .int), (y_k8, .int), (y_k17, .int), (y_k26, .int), (y_k35, .int), (y_k43, .int), (y_k51, .int), (y_k59, .int), (y_k67, .int), (y_k75, .int), (y_k83, .int), (y_k92, .boolean), (y_k100, .boolean)] s) (hP : va_P (dC, dI) vwCl [(q0, .inr (4, [.ref x_q7, .int 0, .ref x_q19, .ref x_q30])), (x_q7, .inl (x_k7, 24, .inr (.inr (.inr (.inr (fun _ => none)))))), (x_q19, .inr (1, [.ref x_q8_23, .int 0])), (x_q8_23, .inl (x_k8_23, 10007, .inl (fun _ => 0))), (x_q30, .inr (3, [.ref x_q19, .ref x_q10_38, .ref x_q22_38])), (x_q10_38, .inr (2, [.ref x_q8_14_38, .ref x_q17_14_38, .null, .int 1, .int 0, .int (-1)])), (x_q8_14_38, .inl (x_k8_14_38, 10007, .inl (fun _ => 0))), (x_q17_14_38, .inl (x_k17_14_38, 128, .inl (fun _ => 0))), (x_q22_38, .inl (x_k22_38, 4, .inl (fun _ => 0))), (q8, .inr (5, [.int 0, .int 0, .int 0, .ref y_q8, .ref y_q17, .int 0, .ref y_q26, .int 0, .ref y_q35, .int 0, .ref y_q43, .ref y_q51, .ref y_q59, .ref y_q67, .ref y_q75, .ref y_q83, .ref y_q92, .ref y_q100])), (y_q8, .inl (y_k8, 10008, .inl (fun _ => 0))), (y_q17, .inl (y_k17, 10008, .inl (fun _ => 0))), (y_q26, .inl (y_k26, 10300, .inl (fun _ => 0))), (y_q35, .inl (y_k35, 10008, .inl (fun _ => 0))), (y_q43, .inl (y_k43, 24, .inl (fun _ => 0))), (y_q51, .inl (y_k51, 24, .inl (fun _ => 0))), (y_q59, .inl (y_k59, 24, .inl (fun _ => 0))), (y_q67, .inl (y_k67, 24, .inl (fun _ => 0))), (y_q75, .inl (y_k75, 24, .inl (fun _ => 0))), (y_q83, .inl (y_k83, 24, .inl (fun _ => 0))), (y_q92, .inl (y_k92, 10300, .inl (fun _ => 0))), (y_q100, .inl (y_k100, 64, .inl (fun _ => 0)))] H) (hD : va_D A [(q0, .inr (4, [.ref x_q7, .int 0, .ref x_q19, .ref x_q30])), (x_q7, .inl (x_k7, 24, .inr (.inr (.inr (.inr (fun _ => none)))))), (x_q19, .inr (1, [.ref x_q8_23, .int 0])), (x_q8_23, .inl (x_k8_23, 10007, .inl (fun _ => 0))), (x_q30, .inr (3, [.ref x_q19, .ref x_q10_38, .ref x_q22_38])), (x_q10_38, .inr (2, [.ref x_q8_14_38, .ref x_q17_14_38, .null, .int 1, .int 0, .int (-1)])), (x_q8_14_38, .inl (x_k8_14_38, 10007, .inl (fun _ => 0))), (x_q17_14_38, .inl (x_k17_14_38, 128, .inl (fun _ => 0))), (x_q22_38, .inl (x_k22_38, 4, .inl (fun _ => 0))), (q8, .inr (5, [.int 0, .int 0, .int 0, .ref y_q8, .ref y_q17, .int 0, .ref y_q26, .int 0, .ref y_q35, .int 0, .ref y_q43, .ref y_q51, .ref y_q59, .ref y_q67, .ref y_q75, .ref y_q83, .ref y_q92, .ref y_q100])), (y_q8, .inl (y_k8, 10008, .inl (fun _ => 0))), (y_q17, .inl (y_k17, 10008, .inl (fun _ => 0))), (y_q26, .inl (y_k26, 10300, .inl (fun _ => 0))), (y_q35, .inl (y_k35, 10008, .inl (fun _ => 0))), (y_q43, .inl (y_k43, 24, .inl (fun _ => 0))), (y_q51, .inl (y_k51, 24, .inl (fun _ => 0))), (y_q59, .inl (y_k59, 24, .inl (fun _ => 0))), (y_q67, .inl (y_k67, 24, .inl (fun _ => 0))), (y_q75, .inl (y_k75, 24, .inl (fun _ => 0))), (y_q83, .inl (y_k83, 24, .inl (fun _ => 0))), (y_q92, .inl (y_k92, 10300, .inl (fun _ => 0))), (y_q100, .inl (y_k100, 64, .inl (fun _ => 0)))]) (hS : va_S A s.heap H locs) (hl : lv_has ls 4 [(0, .ref b), (1, .ref q0), (2, .ref q8), (3, .int 0)]) : W p l e room_1 s m #[Value.ref b] below meth c H locs 22 71035 (lw_Z below #[Value.ref b] s) (F0 m 1398 ls []) := by
  obtain ⟨hx, hb, hr, hml, hown, hts, hX, hbl, hlocks, hgv⟩ := id C0
  have hbA : ¬ A b := by rw [hAe]; exact Nat.not_le.mpr hbl
  have hA0 : ∀ q : Nat, s.heap.size ≤ q → A q := fun q h => by rw [hAe]; exact h
  refine lv_aload_n hx hb dL_law_1398 rfl (lv_at hl 1 rfl) ?_
  refine lv_aload_n hx hb dL_law_1399 rfl (lv_at hl 0 rfl) ?_
  refine lv_iload_n hx hb dL_law_1400 rfl (lv_at hl 3 rfl) ?_
  refine lv_iconst (v := 1) hx hb dL_law_1401 (by decide) ?_
  refine lv_iadd hx hb dL_law_1402 ?_
  refine va_sld hx hb hX hbl hbA hS (l1_vin hL7 (vp_in_iff.mpr (by decide +kernel))) dL_law_1403 ?_
  refine lv_topi (fun s1 es1 => ?_)
  refine lv_aload_n hx hb dL_law_1404 rfl (lv_at hl 0 rfl) ?_
  refine lv_iload_n hx hb dL_law_1405 rfl (lv_at hl 3 rfl) ?_
  refine lv_iconst (v := 2) hx hb dL_law_1406 (by decide) ?_
  refine lv_iadd hx hb dL_law_1407 ?_
  refine va_sld hx hb hX hbl hbA hS (l1_vin hL7 (vp_in_iff.mpr (by decide +kernel))) dL_law_1408 ?_
  refine lv_topi (fun s2 es2 => ?_)
  have hPc := hP.sub (ws' := [(q0, .inr (4, [.ref x_q7, .int 0, .ref x_q19, .ref x_q30])), (x_q7, .inl (x_k7, 24, .inr (.inr (.inr (.inr (fun _ => none))))))]) [0, 1] rfl
  have hKc := hK.sub (tys' := [(x_k7, .object "PointRings$Curve")]) [0] rfl
  refine vp_callSi (W.runV (As := [.int s1, .int s2]) (rest := []) ⟨hx, hb, hml, hown, hts⟩ (ctX5_quotient_n l N dC dI  q0 x_q7 x_q19 x_q30 x_k7 0 (fun _ => none) s1 s2 (-2) rfl (l1_at N s1)) (cwV 2 hts gL1_X5_quotient_n rfl rfl rfl (by decide +kernel) ⟨Nat.le_of_ble_eq_true rfl, Nat.le_of_ble_eq_true rfl⟩) ⟨fun a U g mk q => by obtain ⟨q0, qP, qK, qN⟩ := q; exact ⟨q0, qP, va_K.moved (u := U) (U := U.calling g mk a) (Vm.Alike.refl U.vm) qK, nw_same (u := U) (U := U.calling g mk a) rfl qN⟩, va_recv hKc hPc (ci := 4) (q0 := 0) rfl rfl, fun U hU hW => ⟨rfl, by rw [hU]; exact hPc, va_K.moved hW.alike hKc, nw_warm hW hN⟩⟩ rfl rfl hl.1 rfl (lv_room (Nat.le_of_ble_eq_true rfl)) dL_law_1409 ⟨by decide +kernel, by decide +kernel⟩) (fun q9 eq9 => ?_)
  subst q9
  refine lv_aload_n hx hb dL_law_1412 rfl (lv_at hl 2 rfl) ?_
  refine lv_aload_n hx hb dL_law_1413 rfl (lv_at hl 0 rfl) ?_
  refine lv_iload_n hx hb dL_law_1414 rfl (lv_at hl 3 rfl) ?_
  refine lv_iconst (v := 1) hx hb dL_law_1415 (by decide) ?_
  refine lv_iadd hx hb dL_law_1416 ?_
  refine va_sld hx hb hX hbl hbA hS (l1_vin hL7 (vp_in_iff.mpr (by decide +kernel))) dL_law_1417 ?_
  rw [← es1]
  refine lv_aload_n hx hb dL_law_1418 rfl (lv_at hl 0 rfl) ?_
  refine lv_iload_n hx hb dL_law_1419 rfl (lv_at hl 3 rfl) ?_
  refine lv_iconst (v := 2) hx hb dL_law_1420 (by decide) ?_
  refine lv_iadd hx hb dL_law_1421 ?_
  refine va_sld hx hb hX hbl hbA hS (l1_vin hL7 (vp_in_iff.mpr (by decide +kernel))) dL_law_1422 ?_
  rw [← es2]
  have hPc := hP.sub (ws' := [(q8, .inr (5, [.int 0, .int 0, .int 0, .ref y_q8, .ref y_q17, .int 0, .ref y_q26, .int 0, .ref y_q35, .int 0, .ref y_q43, .ref y_q51, .ref y_q59, .ref y_q67, .ref y_q75, .ref y_q83, .ref y_q92, .ref y_q100]))]) [9] rfl
  have hKc := hK.sub (tys' := []) [] rfl
  refine vp_callSi (W.runV (As := [.int s1, .int s2]) (rest := [.int (-2)]) ⟨hx, hb, hml, hown, hts⟩ (ctX6_quotient_n l N dC dI  q8 y_q8 y_q17 y_q26 y_q35 y_q43 y_q51 y_q59 y_q67 y_q75 y_q83 y_q92 y_q100 0 0 0 0 0 0 s1 s2 (-2) rfl (l1_in N s1)) (cwV 2 hts gL1_X6_quotient_n rfl rfl rfl (by decide +kernel) ⟨Nat.le_of_ble_eq_true rfl, Nat.le_of_ble_eq_true rfl⟩) ⟨fun a U g mk q => by obtain ⟨q0, qP, qK, qN⟩ := q; exact ⟨q0, qP, va_K.moved (u := U) (U := U.calling g mk a) (Vm.Alike.refl U.vm) qK, nw_same (u := U) (U := U.calling g mk a) rfl qN⟩, va_recv hKc hPc (ci := 5) (q0 := 0) rfl rfl, fun U hU hW => ⟨rfl, by rw [hU]; exact hPc, va_K.moved hW.alike hKc, nw_warm hW hN⟩⟩ rfl rfl hl.1 rfl (lv_room (Nat.le_of_ble_eq_true rfl)) dL_law_1423 ⟨by decide +kernel, by decide +kernel⟩) (fun q9 eq9 => ?_)
  subst q9
  refine lv_icmp_eq (tgt := 1739) hx hb dL_law_1426 (by decide) (fun c152 => ?_) (fun c152 => ?_)
  · exact law1_end hL C0 hAe (by decide +kernel) (by decide +kernel) hS ls (lv_sub hl [0, 3] rfl)
  · exact absurd (rfl : (-2) = ((-2) : Int32)) c152
set_option maxHeartbeats 4000000 in
set_option maxRecDepth 100000 in
theorem law1_c32 {p : Program} {l : Launch} {e : Env} {s : State} {m : MethodId} {below : List Frame} {meth : Method} {c : Code} {b L : Nat} {xs : Nat → Int32} (hL : L ≤ 7) (hL7 : L = 7) (C0 : lw_At p s m meth c b L xs) (N : Nat) (hN1 : 20000 ≤ N) (dC : Nat → ClassId) (dI : Nat → Nat → Nat) (q0 x_q7 x_q19 x_q8_23 x_q30 x_q10_38 x_q8_14_38 x_q17_14_38 x_q22_38 q8 y_q8 y_q17 y_q26 y_q35 y_q43 y_q51 y_q59 y_q67 y_q75 y_q83 y_q92 y_q100 : Nat) (x_k7 x_k8_23 x_k8_14_38 x_k17_14_38 x_k22_38 y_k8 y_k17 y_k26 y_k35 y_k43 y_k51 y_k59 y_k67 y_k75 y_k83 y_k92 y_k100 : ClassId) {A : Nat → Prop} (hAe : A = fun q => s.heap.size ≤ q) (H : Heap) (locs : List Loc) (ls : Array Slot) (hN : nw_all s) (hK : va_K (dC, dI) vwCl [(x_k7, .object "PointRings$Curve"), (x_k8_23, .int), (x_k8_14_38, .int), (x_k17_14_38, .int), (x_k22_38, .int), (y_k8, .int), (y_k17, .int), (y_k26, .int), (y_k35, .int), (y_k43, .int), (y_k51, .int), (y_k59, .int), (y_k67, .int), (y_k75, .int), (y_k83, .int), (y_k92, .boolean), (y_k100, .boolean)] s) (hP : va_P (dC, dI) vwCl [(q0, .inr (4, [.ref x_q7, .int 0, .ref x_q19, .ref x_q30])), (x_q7, .inl (x_k7, 24, .inr (.inr (.inr (.inr (fun _ => none)))))), (x_q19, .inr (1, [.ref x_q8_23, .int 0])), (x_q8_23, .inl (x_k8_23, 10007, .inl (fun _ => 0))), (x_q30, .inr (3, [.ref x_q19, .ref x_q10_38, .ref x_q22_38])), (x_q10_38, .inr (2, [.ref x_q8_14_38, .ref x_q17_14_38, .null, .int 1, .int 0, .int (-1)])), (x_q8_14_38, .inl (x_k8_14_38, 10007, .inl (fun _ => 0))), (x_q17_14_38, .inl (x_k17_14_38, 128, .inl (fun _ => 0))), (x_q22_38, .inl (x_k22_38, 4, .inl (fun _ => 0))), (q8, .inr (5, [.int 0, .int 0, .int 0, .ref y_q8, .ref y_q17, .int 0, .ref y_q26, .int 0, .ref y_q35, .int 0, .ref y_q43, .ref y_q51, .ref y_q59, .ref y_q67, .ref y_q75, .ref y_q83, .ref y_q92, .ref y_q100])), (y_q8, .inl (y_k8, 10008, .inl (fun _ => 0))), (y_q17, .inl (y_k17, 10008, .inl (fun _ => 0))), (y_q26, .inl (y_k26, 10300, .inl (fun _ => 0))), (y_q35, .inl (y_k35, 10008, .inl (fun _ => 0))), (y_q43, .inl (y_k43, 24, .inl (fun _ => 0))), (y_q51, .inl (y_k51, 24, .inl (fun _ => 0))), (y_q59, .inl (y_k59, 24, .inl (fun _ => 0))), (y_q67, .inl (y_k67, 24, .inl (fun _ => 0))), (y_q75, .inl (y_k75, 24, .inl (fun _ => 0))), (y_q83, .inl (y_k83, 24, .inl (fun _ => 0))), (y_q92, .inl (y_k92, 10300, .inl (fun _ => 0))), (y_q100, .inl (y_k100, 64, .inl (fun _ => 0)))] H) (hD : va_D A [(q0, .inr (4, [.ref x_q7, .int 0, .ref x_q19, .ref x_q30])), (x_q7, .inl (x_k7, 24, .inr (.inr (.inr (.inr (fun _ => none)))))), (x_q19, .inr (1, [.ref x_q8_23, .int 0])), (x_q8_23, .inl (x_k8_23, 10007, .inl (fun _ => 0))), (x_q30, .inr (3, [.ref x_q19, .ref x_q10_38, .ref x_q22_38])), (x_q10_38, .inr (2, [.ref x_q8_14_38, .ref x_q17_14_38, .null, .int 1, .int 0, .int (-1)])), (x_q8_14_38, .inl (x_k8_14_38, 10007, .inl (fun _ => 0))), (x_q17_14_38, .inl (x_k17_14_38, 128, .inl (fun _ => 0))), (x_q22_38, .inl (x_k22_38, 4, .inl (fun _ => 0))), (q8, .inr (5, [.int 0, .int 0, .int 0, .ref y_q8, .ref y_q17, .int 0, .ref y_q26, .int 0, .ref y_q35, .int 0, .ref y_q43, .ref y_q51, .ref y_q59, .ref y_q67, .ref y_q75, .ref y_q83, .ref y_q92, .ref y_q100])), (y_q8, .inl (y_k8, 10008, .inl (fun _ => 0))), (y_q17, .inl (y_k17, 10008, .inl (fun _ => 0))), (y_q26, .inl (y_k26, 10300, .inl (fun _ => 0))), (y_q35, .inl (y_k35, 10008, .inl (fun _ => 0))), (y_q43, .inl (y_k43, 24, .inl (fun _ => 0))), (y_q51, .inl (y_k51, 24, .inl (fun _ => 0))), (y_q59, .inl (y_k59, 24, .inl (fun _ => 0))), (y_q67, .inl (y_k67, 24, .inl (fun _ => 0))), (y_q75, .inl (y_k75, 24, .inl (fun _ => 0))), (y_q83, .inl (y_k83, 24, .inl (fun _ => 0))), (y_q92, .inl (y_k92, 10300, .inl (fun _ => 0))), (y_q100, .inl (y_k100, 64, .inl (fun _ => 0)))]) (hS : va_S A s.heap H locs) (hl : lv_has ls 4 [(0, .ref b), (1, .ref q0), (2, .ref q8), (3, .int 0)]) : W p l e room_1 s m #[Value.ref b] below meth c H locs 22 71035 (lw_Z below #[Value.ref b] s) (F0 m 1431 ls []) := by
  obtain ⟨hx, hb, hr, hml, hown, hts, hX, hbl, hlocks, hgv⟩ := id C0
  have hbA : ¬ A b := by rw [hAe]; exact Nat.not_le.mpr hbl
  have hA0 : ∀ q : Nat, s.heap.size ≤ q → A q := fun q h => by rw [hAe]; exact h
  refine lv_aload_n hx hb dL_law_1431 rfl (lv_at hl 1 rfl) ?_
  refine lv_aload_n hx hb dL_law_1432 rfl (lv_at hl 0 rfl) ?_
  refine lv_iload_n hx hb dL_law_1433 rfl (lv_at hl 3 rfl) ?_
  refine lv_iconst (v := 1) hx hb dL_law_1434 (by decide) ?_
  refine lv_iadd hx hb dL_law_1435 ?_
  refine va_sld hx hb hX hbl hbA hS (l1_vin hL7 (vp_in_iff.mpr (by decide +kernel))) dL_law_1436 ?_
  refine lv_topi (fun s1 es1 => ?_)
  refine lv_aload_n hx hb dL_law_1437 rfl (lv_at hl 0 rfl) ?_
  refine lv_iload_n hx hb dL_law_1438 rfl (lv_at hl 3 rfl) ?_
  refine lv_iconst (v := 2) hx hb dL_law_1439 (by decide) ?_
  refine lv_iadd hx hb dL_law_1440 ?_
  refine va_sld hx hb hX hbl hbA hS (l1_vin hL7 (vp_in_iff.mpr (by decide +kernel))) dL_law_1441 ?_
  refine lv_topi (fun s2 es2 => ?_)
  have hPc := hP.sub (ws' := [(q0, .inr (4, [.ref x_q7, .int 0, .ref x_q19, .ref x_q30])), (x_q7, .inl (x_k7, 24, .inr (.inr (.inr (.inr (fun _ => none))))))]) [0, 1] rfl
  have hKc := hK.sub (tys' := [(x_k7, .object "PointRings$Curve")]) [0] rfl
  refine vp_callSi (W.runV (As := [.int s1, .int s2]) (rest := []) ⟨hx, hb, hml, hown, hts⟩ (ctX5_image_n l N dC dI  q0 x_q7 x_q19 x_q30 x_k7 0 (fun _ => none) s1 s2 (-2) rfl (l1_at N s1) rfl) (cwV 2 hts gL1_X5_image_n rfl rfl rfl (by decide +kernel) ⟨Nat.le_of_ble_eq_true rfl, Nat.le_of_ble_eq_true rfl⟩) ⟨fun a U g mk q => by obtain ⟨q0, qP, qK, qN⟩ := q; exact ⟨q0, qP, va_K.moved (u := U) (U := U.calling g mk a) (Vm.Alike.refl U.vm) qK, nw_same (u := U) (U := U.calling g mk a) rfl qN⟩, va_recv hKc hPc (ci := 4) (q0 := 0) rfl rfl, fun U hU hW => ⟨rfl, by rw [hU]; exact hPc, va_K.moved hW.alike hKc, nw_warm hW hN⟩⟩ rfl rfl hl.1 rfl (lv_room (Nat.le_of_ble_eq_true rfl)) dL_law_1442 ⟨by decide +kernel, by decide +kernel⟩) (fun q9 eq9 => ?_)
  subst q9
  refine lv_aload_n hx hb dL_law_1445 rfl (lv_at hl 2 rfl) ?_
  refine lv_aload_n hx hb dL_law_1446 rfl (lv_at hl 0 rfl) ?_
  refine lv_iload_n hx hb dL_law_1447 rfl (lv_at hl 3 rfl) ?_
  refine lv_iconst (v := 1) hx hb dL_law_1448 (by decide) ?_
  refine lv_iadd hx hb dL_law_1449 ?_
  refine va_sld hx hb hX hbl hbA hS (l1_vin hL7 (vp_in_iff.mpr (by decide +kernel))) dL_law_1450 ?_
  rw [← es1]
  refine lv_aload_n hx hb dL_law_1451 rfl (lv_at hl 0 rfl) ?_
  refine lv_iload_n hx hb dL_law_1452 rfl (lv_at hl 3 rfl) ?_
  refine lv_iconst (v := 2) hx hb dL_law_1453 (by decide) ?_
  refine lv_iadd hx hb dL_law_1454 ?_
  refine va_sld hx hb hX hbl hbA hS (l1_vin hL7 (vp_in_iff.mpr (by decide +kernel))) dL_law_1455 ?_
  rw [← es2]
  have hPc := hP.sub (ws' := [(q8, .inr (5, [.int 0, .int 0, .int 0, .ref y_q8, .ref y_q17, .int 0, .ref y_q26, .int 0, .ref y_q35, .int 0, .ref y_q43, .ref y_q51, .ref y_q59, .ref y_q67, .ref y_q75, .ref y_q83, .ref y_q92, .ref y_q100]))]) [9] rfl
  have hKc := hK.sub (tys' := []) [] rfl
  refine vp_callSi (W.runV (As := [.int s1, .int s2]) (rest := [.int (-2)]) ⟨hx, hb, hml, hown, hts⟩ (ctX6_image_n l N dC dI  q8 y_q8 y_q17 y_q26 y_q35 y_q43 y_q51 y_q59 y_q67 y_q75 y_q83 y_q92 y_q100 0 0 0 0 0 0 s1 s2 (-2) rfl (l1_in N s1)) (cwV 2 hts gL1_X6_image_n rfl rfl rfl (by decide +kernel) ⟨Nat.le_of_ble_eq_true rfl, Nat.le_of_ble_eq_true rfl⟩) ⟨fun a U g mk q => by obtain ⟨q0, qP, qK, qN⟩ := q; exact ⟨q0, qP, va_K.moved (u := U) (U := U.calling g mk a) (Vm.Alike.refl U.vm) qK, nw_same (u := U) (U := U.calling g mk a) rfl qN⟩, va_recv hKc hPc (ci := 5) (q0 := 0) rfl rfl, fun U hU hW => ⟨rfl, by rw [hU]; exact hPc, va_K.moved hW.alike hKc, nw_warm hW hN⟩⟩ rfl rfl hl.1 rfl (lv_room (Nat.le_of_ble_eq_true rfl)) dL_law_1456 ⟨by decide +kernel, by decide +kernel⟩) (fun q9 eq9 => ?_)
  subst q9
  refine lv_icmp_eq (tgt := 1739) hx hb dL_law_1459 (by decide) (fun c155 => ?_) (fun c155 => ?_)
  · exact law1_end hL C0 hAe (by decide +kernel) (by decide +kernel) hS ls (lv_sub hl [0, 3] rfl)
  · exact absurd (rfl : (-2) = ((-2) : Int32)) c155
set_option maxHeartbeats 4000000 in
set_option maxRecDepth 100000 in
theorem law1_c33 {p : Program} {l : Launch} {e : Env} {s : State} {m : MethodId} {below : List Frame} {meth : Method} {c : Code} {b L : Nat} {xs : Nat → Int32} (hL : L ≤ 7) (hL7 : L = 7) (C0 : lw_At p s m meth c b L xs) (N : Nat) (hN1 : 20000 ≤ N) (dC : Nat → ClassId) (dI : Nat → Nat → Nat) (q0 x_q7 x_q19 x_q8_23 x_q30 x_q10_38 x_q8_14_38 x_q17_14_38 x_q22_38 q8 y_q8 y_q17 y_q26 y_q35 y_q43 y_q51 y_q59 y_q67 y_q75 y_q83 y_q92 y_q100 : Nat) (x_k7 x_k8_23 x_k8_14_38 x_k17_14_38 x_k22_38 y_k8 y_k17 y_k26 y_k35 y_k43 y_k51 y_k59 y_k67 y_k75 y_k83 y_k92 y_k100 : ClassId) {A : Nat → Prop} (hAe : A = fun q => s.heap.size ≤ q) (H : Heap) (locs : List Loc) (ls : Array Slot) (hN : nw_all s) (hK : va_K (dC, dI) vwCl [(x_k7, .object "PointRings$Curve"), (x_k8_23, .int), (x_k8_14_38, .int), (x_k17_14_38, .int), (x_k22_38, .int), (y_k8, .int), (y_k17, .int), (y_k26, .int), (y_k35, .int), (y_k43, .int), (y_k51, .int), (y_k59, .int), (y_k67, .int), (y_k75, .int), (y_k83, .int), (y_k92, .boolean), (y_k100, .boolean)] s) (hP : va_P (dC, dI) vwCl [(q0, .inr (4, [.ref x_q7, .int 0, .ref x_q19, .ref x_q30])), (x_q7, .inl (x_k7, 24, .inr (.inr (.inr (.inr (fun _ => none)))))), (x_q19, .inr (1, [.ref x_q8_23, .int 0])), (x_q8_23, .inl (x_k8_23, 10007, .inl (fun _ => 0))), (x_q30, .inr (3, [.ref x_q19, .ref x_q10_38, .ref x_q22_38])), (x_q10_38, .inr (2, [.ref x_q8_14_38, .ref x_q17_14_38, .null, .int 1, .int 0, .int (-1)])), (x_q8_14_38, .inl (x_k8_14_38, 10007, .inl (fun _ => 0))), (x_q17_14_38, .inl (x_k17_14_38, 128, .inl (fun _ => 0))), (x_q22_38, .inl (x_k22_38, 4, .inl (fun _ => 0))), (q8, .inr (5, [.int 0, .int 0, .int 0, .ref y_q8, .ref y_q17, .int 0, .ref y_q26, .int 0, .ref y_q35, .int 0, .ref y_q43, .ref y_q51, .ref y_q59, .ref y_q67, .ref y_q75, .ref y_q83, .ref y_q92, .ref y_q100])), (y_q8, .inl (y_k8, 10008, .inl (fun _ => 0))), (y_q17, .inl (y_k17, 10008, .inl (fun _ => 0))), (y_q26, .inl (y_k26, 10300, .inl (fun _ => 0))), (y_q35, .inl (y_k35, 10008, .inl (fun _ => 0))), (y_q43, .inl (y_k43, 24, .inl (fun _ => 0))), (y_q51, .inl (y_k51, 24, .inl (fun _ => 0))), (y_q59, .inl (y_k59, 24, .inl (fun _ => 0))), (y_q67, .inl (y_k67, 24, .inl (fun _ => 0))), (y_q75, .inl (y_k75, 24, .inl (fun _ => 0))), (y_q83, .inl (y_k83, 24, .inl (fun _ => 0))), (y_q92, .inl (y_k92, 10300, .inl (fun _ => 0))), (y_q100, .inl (y_k100, 64, .inl (fun _ => 0)))] H) (hD : va_D A [(q0, .inr (4, [.ref x_q7, .int 0, .ref x_q19, .ref x_q30])), (x_q7, .inl (x_k7, 24, .inr (.inr (.inr (.inr (fun _ => none)))))), (x_q19, .inr (1, [.ref x_q8_23, .int 0])), (x_q8_23, .inl (x_k8_23, 10007, .inl (fun _ => 0))), (x_q30, .inr (3, [.ref x_q19, .ref x_q10_38, .ref x_q22_38])), (x_q10_38, .inr (2, [.ref x_q8_14_38, .ref x_q17_14_38, .null, .int 1, .int 0, .int (-1)])), (x_q8_14_38, .inl (x_k8_14_38, 10007, .inl (fun _ => 0))), (x_q17_14_38, .inl (x_k17_14_38, 128, .inl (fun _ => 0))), (x_q22_38, .inl (x_k22_38, 4, .inl (fun _ => 0))), (q8, .inr (5, [.int 0, .int 0, .int 0, .ref y_q8, .ref y_q17, .int 0, .ref y_q26, .int 0, .ref y_q35, .int 0, .ref y_q43, .ref y_q51, .ref y_q59, .ref y_q67, .ref y_q75, .ref y_q83, .ref y_q92, .ref y_q100])), (y_q8, .inl (y_k8, 10008, .inl (fun _ => 0))), (y_q17, .inl (y_k17, 10008, .inl (fun _ => 0))), (y_q26, .inl (y_k26, 10300, .inl (fun _ => 0))), (y_q35, .inl (y_k35, 10008, .inl (fun _ => 0))), (y_q43, .inl (y_k43, 24, .inl (fun _ => 0))), (y_q51, .inl (y_k51, 24, .inl (fun _ => 0))), (y_q59, .inl (y_k59, 24, .inl (fun _ => 0))), (y_q67, .inl (y_k67, 24, .inl (fun _ => 0))), (y_q75, .inl (y_k75, 24, .inl (fun _ => 0))), (y_q83, .inl (y_k83, 24, .inl (fun _ => 0))), (y_q92, .inl (y_k92, 10300, .inl (fun _ => 0))), (y_q100, .inl (y_k100, 64, .inl (fun _ => 0)))]) (hS : va_S A s.heap H locs) (hl : lv_has ls 4 [(0, .ref b), (1, .ref q0), (2, .ref q8), (3, .int 0)]) : W p l e room_1 s m #[Value.ref b] below meth c H locs 22 71035 (lw_Z below #[Value.ref b] s) (F0 m 1464 ls []) := by
  obtain ⟨hx, hb, hr, hml, hown, hts, hX, hbl, hlocks, hgv⟩ := id C0
  have hbA : ¬ A b := by rw [hAe]; exact Nat.not_le.mpr hbl
  have hA0 : ∀ q : Nat, s.heap.size ≤ q → A q := fun q h => by rw [hAe]; exact h
  refine lv_aload_n hx hb dL_law_1464 rfl (lv_at hl 1 rfl) ?_
  refine lv_aload_n hx hb dL_law_1465 rfl (lv_at hl 0 rfl) ?_
  refine lv_iload_n hx hb dL_law_1466 rfl (lv_at hl 3 rfl) ?_
  refine lv_iconst (v := 1) hx hb dL_law_1467 (by decide) ?_
  refine lv_iadd hx hb dL_law_1468 ?_
  refine va_sld hx hb hX hbl hbA hS (l1_vin hL7 (vp_in_iff.mpr (by decide +kernel))) dL_law_1469 ?_
  refine lv_topi (fun s1 es1 => ?_)
  refine lv_aload_n hx hb dL_law_1470 rfl (lv_at hl 0 rfl) ?_
  refine lv_iload_n hx hb dL_law_1471 rfl (lv_at hl 3 rfl) ?_
  refine lv_iconst (v := 2) hx hb dL_law_1472 (by decide) ?_
  refine lv_iadd hx hb dL_law_1473 ?_
  refine va_sld hx hb hX hbl hbA hS (l1_vin hL7 (vp_in_iff.mpr (by decide +kernel))) dL_law_1474 ?_
  refine lv_topi (fun s2 es2 => ?_)
  have hPc := hP.sub (ws' := [(q0, .inr (4, [.ref x_q7, .int 0, .ref x_q19, .ref x_q30])), (x_q7, .inl (x_k7, 24, .inr (.inr (.inr (.inr (fun _ => none))))))]) [0, 1] rfl
  have hKc := hK.sub (tys' := [(x_k7, .object "PointRings$Curve")]) [0] rfl
  refine vp_callSi (W.runV (As := [.int s1, .int s2]) (rest := []) ⟨hx, hb, hml, hown, hts⟩ (ctX5_kernel_n l N dC dI  q0 x_q7 x_q19 x_q30 x_k7 0 (fun _ => none) s1 s2 (-2) rfl (l1_at N s1) rfl) (cwV 2 hts gL1_X5_kernel_n rfl rfl rfl (by decide +kernel) ⟨Nat.le_of_ble_eq_true rfl, Nat.le_of_ble_eq_true rfl⟩) ⟨fun a U g mk q => by obtain ⟨q0, qP, qK, qN⟩ := q; exact ⟨q0, qP, va_K.moved (u := U) (U := U.calling g mk a) (Vm.Alike.refl U.vm) qK, nw_same (u := U) (U := U.calling g mk a) rfl qN⟩, va_recv hKc hPc (ci := 4) (q0 := 0) rfl rfl, fun U hU hW => ⟨rfl, by rw [hU]; exact hPc, va_K.moved hW.alike hKc, nw_warm hW hN⟩⟩ rfl rfl hl.1 rfl (lv_room (Nat.le_of_ble_eq_true rfl)) dL_law_1475 ⟨by decide +kernel, by decide +kernel⟩) (fun q9 eq9 => ?_)
  subst q9
  refine lv_aload_n hx hb dL_law_1478 rfl (lv_at hl 2 rfl) ?_
  refine lv_aload_n hx hb dL_law_1479 rfl (lv_at hl 0 rfl) ?_
  refine lv_iload_n hx hb dL_law_1480 rfl (lv_at hl 3 rfl) ?_
  refine lv_iconst (v := 1) hx hb dL_law_1481 (by decide) ?_
  refine lv_iadd hx hb dL_law_1482 ?_
  refine va_sld hx hb hX hbl hbA hS (l1_vin hL7 (vp_in_iff.mpr (by decide +kernel))) dL_law_1483 ?_
  rw [← es1]
  refine lv_aload_n hx hb dL_law_1484 rfl (lv_at hl 0 rfl) ?_
  refine lv_iload_n hx hb dL_law_1485 rfl (lv_at hl 3 rfl) ?_
  refine lv_iconst (v := 2) hx hb dL_law_1486 (by decide) ?_
  refine lv_iadd hx hb dL_law_1487 ?_
  refine va_sld hx hb hX hbl hbA hS (l1_vin hL7 (vp_in_iff.mpr (by decide +kernel))) dL_law_1488 ?_
  rw [← es2]
  have hPc := hP.sub (ws' := [(q8, .inr (5, [.int 0, .int 0, .int 0, .ref y_q8, .ref y_q17, .int 0, .ref y_q26, .int 0, .ref y_q35, .int 0, .ref y_q43, .ref y_q51, .ref y_q59, .ref y_q67, .ref y_q75, .ref y_q83, .ref y_q92, .ref y_q100]))]) [9] rfl
  have hKc := hK.sub (tys' := []) [] rfl
  refine vp_callSi (W.runV (As := [.int s1, .int s2]) (rest := [.int (-2)]) ⟨hx, hb, hml, hown, hts⟩ (ctX6_kernel_n l N dC dI  q8 y_q8 y_q17 y_q26 y_q35 y_q43 y_q51 y_q59 y_q67 y_q75 y_q83 y_q92 y_q100 0 0 0 0 0 0 s1 s2 (-2) rfl (l1_in N s1)) (cwV 2 hts gL1_X6_kernel_n rfl rfl rfl (by decide +kernel) ⟨Nat.le_of_ble_eq_true rfl, Nat.le_of_ble_eq_true rfl⟩) ⟨fun a U g mk q => by obtain ⟨q0, qP, qK, qN⟩ := q; exact ⟨q0, qP, va_K.moved (u := U) (U := U.calling g mk a) (Vm.Alike.refl U.vm) qK, nw_same (u := U) (U := U.calling g mk a) rfl qN⟩, va_recv hKc hPc (ci := 5) (q0 := 0) rfl rfl, fun U hU hW => ⟨rfl, by rw [hU]; exact hPc, va_K.moved hW.alike hKc, nw_warm hW hN⟩⟩ rfl rfl hl.1 rfl (lv_room (Nat.le_of_ble_eq_true rfl)) dL_law_1489 ⟨by decide +kernel, by decide +kernel⟩) (fun q9 eq9 => ?_)
  subst q9
  refine lv_icmp_eq (tgt := 1739) hx hb dL_law_1492 (by decide) (fun c158 => ?_) (fun c158 => ?_)
  · exact law1_end hL C0 hAe (by decide +kernel) (by decide +kernel) hS ls (lv_sub hl [0, 3] rfl)
  · exact absurd (rfl : (-2) = ((-2) : Int32)) c158
set_option maxHeartbeats 4000000 in
set_option maxRecDepth 100000 in
theorem law1_c34 {p : Program} {l : Launch} {e : Env} {s : State} {m : MethodId} {below : List Frame} {meth : Method} {c : Code} {b L : Nat} {xs : Nat → Int32} (hL : L ≤ 7) (hL7 : L = 7) (C0 : lw_At p s m meth c b L xs) (N : Nat) (hN1 : 20000 ≤ N) (dC : Nat → ClassId) (dI : Nat → Nat → Nat) (q0 x_q7 x_q19 x_q8_23 x_q30 x_q10_38 x_q8_14_38 x_q17_14_38 x_q22_38 q8 y_q8 y_q17 y_q26 y_q35 y_q43 y_q51 y_q59 y_q67 y_q75 y_q83 y_q92 y_q100 : Nat) (x_k7 x_k8_23 x_k8_14_38 x_k17_14_38 x_k22_38 y_k8 y_k17 y_k26 y_k35 y_k43 y_k51 y_k59 y_k67 y_k75 y_k83 y_k92 y_k100 : ClassId) {A : Nat → Prop} (hAe : A = fun q => s.heap.size ≤ q) (H : Heap) (locs : List Loc) (ls : Array Slot) (hN : nw_all s) (hK : va_K (dC, dI) vwCl [(x_k7, .object "PointRings$Curve"), (x_k8_23, .int), (x_k8_14_38, .int), (x_k17_14_38, .int), (x_k22_38, .int), (y_k8, .int), (y_k17, .int), (y_k26, .int), (y_k35, .int), (y_k43, .int), (y_k51, .int), (y_k59, .int), (y_k67, .int), (y_k75, .int), (y_k83, .int), (y_k92, .boolean), (y_k100, .boolean)] s) (hP : va_P (dC, dI) vwCl [(q0, .inr (4, [.ref x_q7, .int 0, .ref x_q19, .ref x_q30])), (x_q7, .inl (x_k7, 24, .inr (.inr (.inr (.inr (fun _ => none)))))), (x_q19, .inr (1, [.ref x_q8_23, .int 0])), (x_q8_23, .inl (x_k8_23, 10007, .inl (fun _ => 0))), (x_q30, .inr (3, [.ref x_q19, .ref x_q10_38, .ref x_q22_38])), (x_q10_38, .inr (2, [.ref x_q8_14_38, .ref x_q17_14_38, .null, .int 1, .int 0, .int (-1)])), (x_q8_14_38, .inl (x_k8_14_38, 10007, .inl (fun _ => 0))), (x_q17_14_38, .inl (x_k17_14_38, 128, .inl (fun _ => 0))), (x_q22_38, .inl (x_k22_38, 4, .inl (fun _ => 0))), (q8, .inr (5, [.int 0, .int 0, .int 0, .ref y_q8, .ref y_q17, .int 0, .ref y_q26, .int 0, .ref y_q35, .int 0, .ref y_q43, .ref y_q51, .ref y_q59, .ref y_q67, .ref y_q75, .ref y_q83, .ref y_q92, .ref y_q100])), (y_q8, .inl (y_k8, 10008, .inl (fun _ => 0))), (y_q17, .inl (y_k17, 10008, .inl (fun _ => 0))), (y_q26, .inl (y_k26, 10300, .inl (fun _ => 0))), (y_q35, .inl (y_k35, 10008, .inl (fun _ => 0))), (y_q43, .inl (y_k43, 24, .inl (fun _ => 0))), (y_q51, .inl (y_k51, 24, .inl (fun _ => 0))), (y_q59, .inl (y_k59, 24, .inl (fun _ => 0))), (y_q67, .inl (y_k67, 24, .inl (fun _ => 0))), (y_q75, .inl (y_k75, 24, .inl (fun _ => 0))), (y_q83, .inl (y_k83, 24, .inl (fun _ => 0))), (y_q92, .inl (y_k92, 10300, .inl (fun _ => 0))), (y_q100, .inl (y_k100, 64, .inl (fun _ => 0)))] H) (hD : va_D A [(q0, .inr (4, [.ref x_q7, .int 0, .ref x_q19, .ref x_q30])), (x_q7, .inl (x_k7, 24, .inr (.inr (.inr (.inr (fun _ => none)))))), (x_q19, .inr (1, [.ref x_q8_23, .int 0])), (x_q8_23, .inl (x_k8_23, 10007, .inl (fun _ => 0))), (x_q30, .inr (3, [.ref x_q19, .ref x_q10_38, .ref x_q22_38])), (x_q10_38, .inr (2, [.ref x_q8_14_38, .ref x_q17_14_38, .null, .int 1, .int 0, .int (-1)])), (x_q8_14_38, .inl (x_k8_14_38, 10007, .inl (fun _ => 0))), (x_q17_14_38, .inl (x_k17_14_38, 128, .inl (fun _ => 0))), (x_q22_38, .inl (x_k22_38, 4, .inl (fun _ => 0))), (q8, .inr (5, [.int 0, .int 0, .int 0, .ref y_q8, .ref y_q17, .int 0, .ref y_q26, .int 0, .ref y_q35, .int 0, .ref y_q43, .ref y_q51, .ref y_q59, .ref y_q67, .ref y_q75, .ref y_q83, .ref y_q92, .ref y_q100])), (y_q8, .inl (y_k8, 10008, .inl (fun _ => 0))), (y_q17, .inl (y_k17, 10008, .inl (fun _ => 0))), (y_q26, .inl (y_k26, 10300, .inl (fun _ => 0))), (y_q35, .inl (y_k35, 10008, .inl (fun _ => 0))), (y_q43, .inl (y_k43, 24, .inl (fun _ => 0))), (y_q51, .inl (y_k51, 24, .inl (fun _ => 0))), (y_q59, .inl (y_k59, 24, .inl (fun _ => 0))), (y_q67, .inl (y_k67, 24, .inl (fun _ => 0))), (y_q75, .inl (y_k75, 24, .inl (fun _ => 0))), (y_q83, .inl (y_k83, 24, .inl (fun _ => 0))), (y_q92, .inl (y_k92, 10300, .inl (fun _ => 0))), (y_q100, .inl (y_k100, 64, .inl (fun _ => 0)))]) (hS : va_S A s.heap H locs) (hl : lv_has ls 4 [(0, .ref b), (1, .ref q0), (2, .ref q8), (3, .int 0)]) : W p l e room_1 s m #[Value.ref b] below meth c H locs 22 71035 (lw_Z below #[Value.ref b] s) (F0 m 1497 ls []) := by
  obtain ⟨hx, hb, hr, hml, hown, hts, hX, hbl, hlocks, hgv⟩ := id C0
  have hbA : ¬ A b := by rw [hAe]; exact Nat.not_le.mpr hbl
  have hA0 : ∀ q : Nat, s.heap.size ≤ q → A q := fun q h => by rw [hAe]; exact h
  refine lv_aload_n hx hb dL_law_1497 rfl (lv_at hl 1 rfl) ?_
  refine lv_aload_n hx hb dL_law_1498 rfl (lv_at hl 0 rfl) ?_
  refine lv_iload_n hx hb dL_law_1499 rfl (lv_at hl 3 rfl) ?_
  refine lv_iconst (v := 1) hx hb dL_law_1500 (by decide) ?_
  refine lv_iadd hx hb dL_law_1501 ?_
  refine va_sld hx hb hX hbl hbA hS (l1_vin hL7 (vp_in_iff.mpr (by decide +kernel))) dL_law_1502 ?_
  refine lv_topi (fun s1 es1 => ?_)
  refine lv_aload_n hx hb dL_law_1503 rfl (lv_at hl 0 rfl) ?_
  refine lv_iload_n hx hb dL_law_1504 rfl (lv_at hl 3 rfl) ?_
  refine lv_iconst (v := 2) hx hb dL_law_1505 (by decide) ?_
  refine lv_iadd hx hb dL_law_1506 ?_
  refine va_sld hx hb hX hbl hbA hS (l1_vin hL7 (vp_in_iff.mpr (by decide +kernel))) dL_law_1507 ?_
  refine lv_topi (fun s2 es2 => ?_)
  refine lv_aload_n hx hb dL_law_1508 rfl (lv_at hl 0 rfl) ?_
  refine lv_iload_n hx hb dL_law_1509 rfl (lv_at hl 3 rfl) ?_
  refine lv_iconst (v := 3) hx hb dL_law_1510 (by decide) ?_
  refine lv_iadd hx hb dL_law_1511 ?_
  refine va_sld hx hb hX hbl hbA hS (l1_vin hL7 (vp_in_iff.mpr (by decide +kernel))) dL_law_1512 ?_
  refine lv_topi (fun s3 es3 => ?_)
  refine lv_aload_n hx hb dL_law_1513 rfl (lv_at hl 0 rfl) ?_
  refine lv_iload_n hx hb dL_law_1514 rfl (lv_at hl 3 rfl) ?_
  refine lv_iconst (v := 4) hx hb dL_law_1515 (by decide) ?_
  refine lv_iadd hx hb dL_law_1516 ?_
  refine va_sld hx hb hX hbl hbA hS (l1_vin hL7 (vp_in_iff.mpr (by decide +kernel))) dL_law_1517 ?_
  refine lv_topi (fun s4 es4 => ?_)
  refine lv_aload_n hx hb dL_law_1518 rfl (lv_at hl 0 rfl) ?_
  refine lv_iload_n hx hb dL_law_1519 rfl (lv_at hl 3 rfl) ?_
  refine lv_iconst (v := 5) hx hb dL_law_1520 (by decide) ?_
  refine lv_iadd hx hb dL_law_1521 ?_
  refine va_sld hx hb hX hbl hbA hS (l1_vin hL7 (vp_in_iff.mpr (by decide +kernel))) dL_law_1522 ?_
  refine lv_topi (fun s5 es5 => ?_)
  refine lv_aload_n hx hb dL_law_1523 rfl (lv_at hl 0 rfl) ?_
  refine lv_iload_n hx hb dL_law_1524 rfl (lv_at hl 3 rfl) ?_
  refine lv_bipush (v := 6) hx hb dL_law_1525 (by decide) ?_
  refine lv_iadd hx hb dL_law_1527 ?_
  refine va_sld hx hb hX hbl hbA hS (l1_vin hL7 (vp_in_iff.mpr (by decide +kernel))) dL_law_1528 ?_
  refine lv_topi (fun s6 es6 => ?_)
  have hPc := hP.sub (ws' := [(q0, .inr (4, [.ref x_q7, .int 0, .ref x_q19, .ref x_q30])), (x_q7, .inl (x_k7, 24, .inr (.inr (.inr (.inr (fun _ => none))))))]) [0, 1] rfl
  have hKc := hK.sub (tys' := [(x_k7, .object "PointRings$Curve")]) [0] rfl
  refine vp_callSi (W.runV (As := [.int s1, .int s2, .int s3, .int s4, .int s5, .int s6]) (rest := []) ⟨hx, hb, hml, hown, hts⟩ (ctX5_sign_n l N dC dI  q0 x_q7 x_q19 x_q30 x_k7 0 (fun _ => none) s1 s2 s3 s4 s5 s6 (-2) rfl (l1_at N s1)) (cwV 6 hts gL1_X5_sign_n rfl rfl rfl (by decide +kernel) ⟨Nat.le_of_ble_eq_true rfl, Nat.le_of_ble_eq_true rfl⟩) ⟨fun a U g mk q => by obtain ⟨q0, qP, qK, qN⟩ := q; exact ⟨q0, qP, va_K.moved (u := U) (U := U.calling g mk a) (Vm.Alike.refl U.vm) qK, nw_same (u := U) (U := U.calling g mk a) rfl qN⟩, va_recv hKc hPc (ci := 4) (q0 := 0) rfl rfl, fun U hU hW => ⟨rfl, by rw [hU]; exact hPc, va_K.moved hW.alike hKc, nw_warm hW hN⟩⟩ rfl rfl hl.1 rfl (lv_room (Nat.le_of_ble_eq_true rfl)) dL_law_1529 ⟨by decide +kernel, by decide +kernel⟩) (fun q9 eq9 => ?_)
  subst q9
  refine lv_aload_n hx hb dL_law_1532 rfl (lv_at hl 2 rfl) ?_
  refine lv_aload_n hx hb dL_law_1533 rfl (lv_at hl 0 rfl) ?_
  refine lv_iload_n hx hb dL_law_1534 rfl (lv_at hl 3 rfl) ?_
  refine lv_iconst (v := 1) hx hb dL_law_1535 (by decide) ?_
  refine lv_iadd hx hb dL_law_1536 ?_
  refine va_sld hx hb hX hbl hbA hS (l1_vin hL7 (vp_in_iff.mpr (by decide +kernel))) dL_law_1537 ?_
  rw [← es1]
  refine lv_aload_n hx hb dL_law_1538 rfl (lv_at hl 0 rfl) ?_
  refine lv_iload_n hx hb dL_law_1539 rfl (lv_at hl 3 rfl) ?_
  refine lv_iconst (v := 2) hx hb dL_law_1540 (by decide) ?_
  refine lv_iadd hx hb dL_law_1541 ?_
  refine va_sld hx hb hX hbl hbA hS (l1_vin hL7 (vp_in_iff.mpr (by decide +kernel))) dL_law_1542 ?_
  rw [← es2]
  refine lv_aload_n hx hb dL_law_1543 rfl (lv_at hl 0 rfl) ?_
  refine lv_iload_n hx hb dL_law_1544 rfl (lv_at hl 3 rfl) ?_
  refine lv_iconst (v := 3) hx hb dL_law_1545 (by decide) ?_
  refine lv_iadd hx hb dL_law_1546 ?_
  refine va_sld hx hb hX hbl hbA hS (l1_vin hL7 (vp_in_iff.mpr (by decide +kernel))) dL_law_1547 ?_
  rw [← es3]
  refine lv_aload_n hx hb dL_law_1548 rfl (lv_at hl 0 rfl) ?_
  refine lv_iload_n hx hb dL_law_1549 rfl (lv_at hl 3 rfl) ?_
  refine lv_iconst (v := 4) hx hb dL_law_1550 (by decide) ?_
  refine lv_iadd hx hb dL_law_1551 ?_
  refine va_sld hx hb hX hbl hbA hS (l1_vin hL7 (vp_in_iff.mpr (by decide +kernel))) dL_law_1552 ?_
  rw [← es4]
  refine lv_aload_n hx hb dL_law_1553 rfl (lv_at hl 0 rfl) ?_
  refine lv_iload_n hx hb dL_law_1554 rfl (lv_at hl 3 rfl) ?_
  refine lv_iconst (v := 5) hx hb dL_law_1555 (by decide) ?_
  refine lv_iadd hx hb dL_law_1556 ?_
  refine va_sld hx hb hX hbl hbA hS (l1_vin hL7 (vp_in_iff.mpr (by decide +kernel))) dL_law_1557 ?_
  rw [← es5]
  refine lv_aload_n hx hb dL_law_1558 rfl (lv_at hl 0 rfl) ?_
  refine lv_iload_n hx hb dL_law_1559 rfl (lv_at hl 3 rfl) ?_
  refine lv_bipush (v := 6) hx hb dL_law_1560 (by decide) ?_
  refine lv_iadd hx hb dL_law_1562 ?_
  refine va_sld hx hb hX hbl hbA hS (l1_vin hL7 (vp_in_iff.mpr (by decide +kernel))) dL_law_1563 ?_
  rw [← es6]
  have hPc := hP.sub (ws' := [(q8, .inr (5, [.int 0, .int 0, .int 0, .ref y_q8, .ref y_q17, .int 0, .ref y_q26, .int 0, .ref y_q35, .int 0, .ref y_q43, .ref y_q51, .ref y_q59, .ref y_q67, .ref y_q75, .ref y_q83, .ref y_q92, .ref y_q100]))]) [9] rfl
  have hKc := hK.sub (tys' := []) [] rfl
  refine vp_callSi (W.runV (As := [.int s1, .int s2, .int s3, .int s4, .int s5, .int s6]) (rest := [.int (-2)]) ⟨hx, hb, hml, hown, hts⟩ (ctX6_sign_n l N dC dI  q8 y_q8 y_q17 y_q26 y_q35 y_q43 y_q51 y_q59 y_q67 y_q75 y_q83 y_q92 y_q100 0 0 0 0 0 0 s1 s2 s3 s4 s5 s6 (-2) rfl (l1_in N s1)) (cwV 6 hts gL1_X6_sign_n rfl rfl rfl (by decide +kernel) ⟨Nat.le_of_ble_eq_true rfl, Nat.le_of_ble_eq_true rfl⟩) ⟨fun a U g mk q => by obtain ⟨q0, qP, qK, qN⟩ := q; exact ⟨q0, qP, va_K.moved (u := U) (U := U.calling g mk a) (Vm.Alike.refl U.vm) qK, nw_same (u := U) (U := U.calling g mk a) rfl qN⟩, va_recv hKc hPc (ci := 5) (q0 := 0) rfl rfl, fun U hU hW => ⟨rfl, by rw [hU]; exact hPc, va_K.moved hW.alike hKc, nw_warm hW hN⟩⟩ rfl rfl hl.1 rfl (lv_room (Nat.le_of_ble_eq_true rfl)) dL_law_1564 ⟨by decide +kernel, by decide +kernel⟩) (fun q9 eq9 => ?_)
  subst q9
  refine lv_icmp_eq (tgt := 1739) hx hb dL_law_1567 (by decide) (fun c161 => ?_) (fun c161 => ?_)
  · exact law1_end hL C0 hAe (by decide +kernel) (by decide +kernel) hS ls (lv_sub hl [0, 3] rfl)
  · exact absurd (rfl : (-2) = ((-2) : Int32)) c161
set_option maxHeartbeats 4000000 in
set_option maxRecDepth 100000 in
theorem law1_c35 {p : Program} {l : Launch} {e : Env} {s : State} {m : MethodId} {below : List Frame} {meth : Method} {c : Code} {b L : Nat} {xs : Nat → Int32} (hL : L ≤ 7) (hL7 : L = 7) (C0 : lw_At p s m meth c b L xs) (N : Nat) (hN1 : 20000 ≤ N) (dC : Nat → ClassId) (dI : Nat → Nat → Nat) (q0 x_q7 x_q19 x_q8_23 x_q30 x_q10_38 x_q8_14_38 x_q17_14_38 x_q22_38 q8 y_q8 y_q17 y_q26 y_q35 y_q43 y_q51 y_q59 y_q67 y_q75 y_q83 y_q92 y_q100 : Nat) (x_k7 x_k8_23 x_k8_14_38 x_k17_14_38 x_k22_38 y_k8 y_k17 y_k26 y_k35 y_k43 y_k51 y_k59 y_k67 y_k75 y_k83 y_k92 y_k100 : ClassId) {A : Nat → Prop} (hAe : A = fun q => s.heap.size ≤ q) (H : Heap) (locs : List Loc) (ls : Array Slot) (hN : nw_all s) (hK : va_K (dC, dI) vwCl [(x_k7, .object "PointRings$Curve"), (x_k8_23, .int), (x_k8_14_38, .int), (x_k17_14_38, .int), (x_k22_38, .int), (y_k8, .int), (y_k17, .int), (y_k26, .int), (y_k35, .int), (y_k43, .int), (y_k51, .int), (y_k59, .int), (y_k67, .int), (y_k75, .int), (y_k83, .int), (y_k92, .boolean), (y_k100, .boolean)] s) (hP : va_P (dC, dI) vwCl [(q0, .inr (4, [.ref x_q7, .int 0, .ref x_q19, .ref x_q30])), (x_q7, .inl (x_k7, 24, .inr (.inr (.inr (.inr (fun _ => none)))))), (x_q19, .inr (1, [.ref x_q8_23, .int 0])), (x_q8_23, .inl (x_k8_23, 10007, .inl (fun _ => 0))), (x_q30, .inr (3, [.ref x_q19, .ref x_q10_38, .ref x_q22_38])), (x_q10_38, .inr (2, [.ref x_q8_14_38, .ref x_q17_14_38, .null, .int 1, .int 0, .int (-1)])), (x_q8_14_38, .inl (x_k8_14_38, 10007, .inl (fun _ => 0))), (x_q17_14_38, .inl (x_k17_14_38, 128, .inl (fun _ => 0))), (x_q22_38, .inl (x_k22_38, 4, .inl (fun _ => 0))), (q8, .inr (5, [.int 0, .int 0, .int 0, .ref y_q8, .ref y_q17, .int 0, .ref y_q26, .int 0, .ref y_q35, .int 0, .ref y_q43, .ref y_q51, .ref y_q59, .ref y_q67, .ref y_q75, .ref y_q83, .ref y_q92, .ref y_q100])), (y_q8, .inl (y_k8, 10008, .inl (fun _ => 0))), (y_q17, .inl (y_k17, 10008, .inl (fun _ => 0))), (y_q26, .inl (y_k26, 10300, .inl (fun _ => 0))), (y_q35, .inl (y_k35, 10008, .inl (fun _ => 0))), (y_q43, .inl (y_k43, 24, .inl (fun _ => 0))), (y_q51, .inl (y_k51, 24, .inl (fun _ => 0))), (y_q59, .inl (y_k59, 24, .inl (fun _ => 0))), (y_q67, .inl (y_k67, 24, .inl (fun _ => 0))), (y_q75, .inl (y_k75, 24, .inl (fun _ => 0))), (y_q83, .inl (y_k83, 24, .inl (fun _ => 0))), (y_q92, .inl (y_k92, 10300, .inl (fun _ => 0))), (y_q100, .inl (y_k100, 64, .inl (fun _ => 0)))] H) (hD : va_D A [(q0, .inr (4, [.ref x_q7, .int 0, .ref x_q19, .ref x_q30])), (x_q7, .inl (x_k7, 24, .inr (.inr (.inr (.inr (fun _ => none)))))), (x_q19, .inr (1, [.ref x_q8_23, .int 0])), (x_q8_23, .inl (x_k8_23, 10007, .inl (fun _ => 0))), (x_q30, .inr (3, [.ref x_q19, .ref x_q10_38, .ref x_q22_38])), (x_q10_38, .inr (2, [.ref x_q8_14_38, .ref x_q17_14_38, .null, .int 1, .int 0, .int (-1)])), (x_q8_14_38, .inl (x_k8_14_38, 10007, .inl (fun _ => 0))), (x_q17_14_38, .inl (x_k17_14_38, 128, .inl (fun _ => 0))), (x_q22_38, .inl (x_k22_38, 4, .inl (fun _ => 0))), (q8, .inr (5, [.int 0, .int 0, .int 0, .ref y_q8, .ref y_q17, .int 0, .ref y_q26, .int 0, .ref y_q35, .int 0, .ref y_q43, .ref y_q51, .ref y_q59, .ref y_q67, .ref y_q75, .ref y_q83, .ref y_q92, .ref y_q100])), (y_q8, .inl (y_k8, 10008, .inl (fun _ => 0))), (y_q17, .inl (y_k17, 10008, .inl (fun _ => 0))), (y_q26, .inl (y_k26, 10300, .inl (fun _ => 0))), (y_q35, .inl (y_k35, 10008, .inl (fun _ => 0))), (y_q43, .inl (y_k43, 24, .inl (fun _ => 0))), (y_q51, .inl (y_k51, 24, .inl (fun _ => 0))), (y_q59, .inl (y_k59, 24, .inl (fun _ => 0))), (y_q67, .inl (y_k67, 24, .inl (fun _ => 0))), (y_q75, .inl (y_k75, 24, .inl (fun _ => 0))), (y_q83, .inl (y_k83, 24, .inl (fun _ => 0))), (y_q92, .inl (y_k92, 10300, .inl (fun _ => 0))), (y_q100, .inl (y_k100, 64, .inl (fun _ => 0)))]) (hS : va_S A s.heap H locs) (hl : lv_has ls 4 [(0, .ref b), (1, .ref q0), (2, .ref q8), (3, .int 0)]) : W p l e room_1 s m #[Value.ref b] below meth c H locs 22 71035 (lw_Z below #[Value.ref b] s) (F0 m 1572 ls []) := by
  obtain ⟨hx, hb, hr, hml, hown, hts, hX, hbl, hlocks, hgv⟩ := id C0
  have hbA : ¬ A b := by rw [hAe]; exact Nat.not_le.mpr hbl
  have hA0 : ∀ q : Nat, s.heap.size ≤ q → A q := fun q h => by rw [hAe]; exact h
  refine lv_aload_n hx hb dL_law_1572 rfl (lv_at hl 1 rfl) ?_
  refine lv_aload_n hx hb dL_law_1573 rfl (lv_at hl 0 rfl) ?_
  refine lv_iload_n hx hb dL_law_1574 rfl (lv_at hl 3 rfl) ?_
  refine lv_iconst (v := 1) hx hb dL_law_1575 (by decide) ?_
  refine lv_iadd hx hb dL_law_1576 ?_
  refine va_sld hx hb hX hbl hbA hS (l1_vin hL7 (vp_in_iff.mpr (by decide +kernel))) dL_law_1577 ?_
  refine lv_topi (fun s1 es1 => ?_)
  refine lv_aload_n hx hb dL_law_1578 rfl (lv_at hl 0 rfl) ?_
  refine lv_iload_n hx hb dL_law_1579 rfl (lv_at hl 3 rfl) ?_
  refine lv_iconst (v := 2) hx hb dL_law_1580 (by decide) ?_
  refine lv_iadd hx hb dL_law_1581 ?_
  refine va_sld hx hb hX hbl hbA hS (l1_vin hL7 (vp_in_iff.mpr (by decide +kernel))) dL_law_1582 ?_
  refine lv_topi (fun s2 es2 => ?_)
  refine lv_aload_n hx hb dL_law_1583 rfl (lv_at hl 0 rfl) ?_
  refine lv_iload_n hx hb dL_law_1584 rfl (lv_at hl 3 rfl) ?_
  refine lv_iconst (v := 3) hx hb dL_law_1585 (by decide) ?_
  refine lv_iadd hx hb dL_law_1586 ?_
  refine va_sld hx hb hX hbl hbA hS (l1_vin hL7 (vp_in_iff.mpr (by decide +kernel))) dL_law_1587 ?_
  refine lv_topi (fun s3 es3 => ?_)
  refine lv_aload_n hx hb dL_law_1588 rfl (lv_at hl 0 rfl) ?_
  refine lv_iload_n hx hb dL_law_1589 rfl (lv_at hl 3 rfl) ?_
  refine lv_iconst (v := 4) hx hb dL_law_1590 (by decide) ?_
  refine lv_iadd hx hb dL_law_1591 ?_
  refine va_sld hx hb hX hbl hbA hS (l1_vin hL7 (vp_in_iff.mpr (by decide +kernel))) dL_law_1592 ?_
  refine lv_topi (fun s4 es4 => ?_)
  refine lv_aload_n hx hb dL_law_1593 rfl (lv_at hl 0 rfl) ?_
  refine lv_iload_n hx hb dL_law_1594 rfl (lv_at hl 3 rfl) ?_
  refine lv_iconst (v := 5) hx hb dL_law_1595 (by decide) ?_
  refine lv_iadd hx hb dL_law_1596 ?_
  refine va_sld hx hb hX hbl hbA hS (l1_vin hL7 (vp_in_iff.mpr (by decide +kernel))) dL_law_1597 ?_
  refine lv_topi (fun s5 es5 => ?_)
  refine lv_aload_n hx hb dL_law_1598 rfl (lv_at hl 0 rfl) ?_
  refine lv_iload_n hx hb dL_law_1599 rfl (lv_at hl 3 rfl) ?_
  refine lv_bipush (v := 6) hx hb dL_law_1600 (by decide) ?_
  refine lv_iadd hx hb dL_law_1602 ?_
  refine va_sld hx hb hX hbl hbA hS (l1_vin hL7 (vp_in_iff.mpr (by decide +kernel))) dL_law_1603 ?_
  refine lv_topi (fun s6 es6 => ?_)
  have hPc := hP.sub (ws' := [(q0, .inr (4, [.ref x_q7, .int 0, .ref x_q19, .ref x_q30])), (x_q7, .inl (x_k7, 24, .inr (.inr (.inr (.inr (fun _ => none))))))]) [0, 1] rfl
  have hKc := hK.sub (tys' := [(x_k7, .object "PointRings$Curve")]) [0] rfl
  refine vp_callSi (W.runV (As := [.int s1, .int s2, .int s3, .int s4, .int s5, .int s6]) (rest := []) ⟨hx, hb, hml, hown, hts⟩ (ctX5_good_n l N dC dI  q0 x_q7 x_q19 x_q30 x_k7 0 (fun _ => none) s1 s2 s3 s4 s5 s6 (-2) rfl (l1_at N s1)) (cwV 6 hts gL1_X5_good_n rfl rfl rfl (by decide +kernel) ⟨Nat.le_of_ble_eq_true rfl, Nat.le_of_ble_eq_true rfl⟩) ⟨fun a U g mk q => by obtain ⟨q0, qP, qK, qN⟩ := q; exact ⟨q0, qP, va_K.moved (u := U) (U := U.calling g mk a) (Vm.Alike.refl U.vm) qK, nw_same (u := U) (U := U.calling g mk a) rfl qN⟩, va_recv hKc hPc (ci := 4) (q0 := 0) rfl rfl, fun U hU hW => ⟨rfl, by rw [hU]; exact hPc, va_K.moved hW.alike hKc, nw_warm hW hN⟩⟩ rfl rfl hl.1 rfl (lv_room (Nat.le_of_ble_eq_true rfl)) dL_law_1604 ⟨by decide +kernel, by decide +kernel⟩) (fun q9 eq9 => ?_)
  subst q9
  refine lv_aload_n hx hb dL_law_1607 rfl (lv_at hl 2 rfl) ?_
  refine lv_aload_n hx hb dL_law_1608 rfl (lv_at hl 0 rfl) ?_
  refine lv_iload_n hx hb dL_law_1609 rfl (lv_at hl 3 rfl) ?_
  refine lv_iconst (v := 1) hx hb dL_law_1610 (by decide) ?_
  refine lv_iadd hx hb dL_law_1611 ?_
  refine va_sld hx hb hX hbl hbA hS (l1_vin hL7 (vp_in_iff.mpr (by decide +kernel))) dL_law_1612 ?_
  rw [← es1]
  refine lv_aload_n hx hb dL_law_1613 rfl (lv_at hl 0 rfl) ?_
  refine lv_iload_n hx hb dL_law_1614 rfl (lv_at hl 3 rfl) ?_
  refine lv_iconst (v := 2) hx hb dL_law_1615 (by decide) ?_
  refine lv_iadd hx hb dL_law_1616 ?_
  refine va_sld hx hb hX hbl hbA hS (l1_vin hL7 (vp_in_iff.mpr (by decide +kernel))) dL_law_1617 ?_
  rw [← es2]
  refine lv_aload_n hx hb dL_law_1618 rfl (lv_at hl 0 rfl) ?_
  refine lv_iload_n hx hb dL_law_1619 rfl (lv_at hl 3 rfl) ?_
  refine lv_iconst (v := 3) hx hb dL_law_1620 (by decide) ?_
  refine lv_iadd hx hb dL_law_1621 ?_
  refine va_sld hx hb hX hbl hbA hS (l1_vin hL7 (vp_in_iff.mpr (by decide +kernel))) dL_law_1622 ?_
  rw [← es3]
  refine lv_aload_n hx hb dL_law_1623 rfl (lv_at hl 0 rfl) ?_
  refine lv_iload_n hx hb dL_law_1624 rfl (lv_at hl 3 rfl) ?_
  refine lv_iconst (v := 4) hx hb dL_law_1625 (by decide) ?_
  refine lv_iadd hx hb dL_law_1626 ?_
  refine va_sld hx hb hX hbl hbA hS (l1_vin hL7 (vp_in_iff.mpr (by decide +kernel))) dL_law_1627 ?_
  rw [← es4]
  refine lv_aload_n hx hb dL_law_1628 rfl (lv_at hl 0 rfl) ?_
  refine lv_iload_n hx hb dL_law_1629 rfl (lv_at hl 3 rfl) ?_
  refine lv_iconst (v := 5) hx hb dL_law_1630 (by decide) ?_
  refine lv_iadd hx hb dL_law_1631 ?_
  refine va_sld hx hb hX hbl hbA hS (l1_vin hL7 (vp_in_iff.mpr (by decide +kernel))) dL_law_1632 ?_
  rw [← es5]
  refine lv_aload_n hx hb dL_law_1633 rfl (lv_at hl 0 rfl) ?_
  refine lv_iload_n hx hb dL_law_1634 rfl (lv_at hl 3 rfl) ?_
  refine lv_bipush (v := 6) hx hb dL_law_1635 (by decide) ?_
  refine lv_iadd hx hb dL_law_1637 ?_
  refine va_sld hx hb hX hbl hbA hS (l1_vin hL7 (vp_in_iff.mpr (by decide +kernel))) dL_law_1638 ?_
  rw [← es6]
  have hPc := hP.sub (ws' := [(q8, .inr (5, [.int 0, .int 0, .int 0, .ref y_q8, .ref y_q17, .int 0, .ref y_q26, .int 0, .ref y_q35, .int 0, .ref y_q43, .ref y_q51, .ref y_q59, .ref y_q67, .ref y_q75, .ref y_q83, .ref y_q92, .ref y_q100]))]) [9] rfl
  have hKc := hK.sub (tys' := []) [] rfl
  refine vp_callSi (W.runV (As := [.int s1, .int s2, .int s3, .int s4, .int s5, .int s6]) (rest := [.int (-2)]) ⟨hx, hb, hml, hown, hts⟩ (ctX6_good_n l N dC dI  q8 y_q8 y_q17 y_q26 y_q35 y_q43 y_q51 y_q59 y_q67 y_q75 y_q83 y_q92 y_q100 0 0 0 0 0 0 s1 s2 s3 s4 s5 s6 (-2) rfl (l1_in N s1)) (cwV 6 hts gL1_X6_good_n rfl rfl rfl (by decide +kernel) ⟨Nat.le_of_ble_eq_true rfl, Nat.le_of_ble_eq_true rfl⟩) ⟨fun a U g mk q => by obtain ⟨q0, qP, qK, qN⟩ := q; exact ⟨q0, qP, va_K.moved (u := U) (U := U.calling g mk a) (Vm.Alike.refl U.vm) qK, nw_same (u := U) (U := U.calling g mk a) rfl qN⟩, va_recv hKc hPc (ci := 5) (q0 := 0) rfl rfl, fun U hU hW => ⟨rfl, by rw [hU]; exact hPc, va_K.moved hW.alike hKc, nw_warm hW hN⟩⟩ rfl rfl hl.1 rfl (lv_room (Nat.le_of_ble_eq_true rfl)) dL_law_1639 ⟨by decide +kernel, by decide +kernel⟩) (fun q9 eq9 => ?_)
  subst q9
  refine lv_icmp_eq (tgt := 1739) hx hb dL_law_1642 (by decide) (fun c164 => ?_) (fun c164 => ?_)
  · exact law1_end hL C0 hAe (by decide +kernel) (by decide +kernel) hS ls (lv_sub hl [0, 3] rfl)
  · exact absurd (rfl : (-2) = ((-2) : Int32)) c164
set_option maxHeartbeats 4000000 in
set_option maxRecDepth 100000 in
theorem law1_c36 {p : Program} {l : Launch} {e : Env} {s : State} {m : MethodId} {below : List Frame} {meth : Method} {c : Code} {b L : Nat} {xs : Nat → Int32} (hL : L ≤ 7) (hL7 : L = 7) (C0 : lw_At p s m meth c b L xs) (N : Nat) (hN1 : 20000 ≤ N) (dC : Nat → ClassId) (dI : Nat → Nat → Nat) (q0 x_q7 x_q19 x_q8_23 x_q30 x_q10_38 x_q8_14_38 x_q17_14_38 x_q22_38 q8 y_q8 y_q17 y_q26 y_q35 y_q43 y_q51 y_q59 y_q67 y_q75 y_q83 y_q92 y_q100 : Nat) (x_k7 x_k8_23 x_k8_14_38 x_k17_14_38 x_k22_38 y_k8 y_k17 y_k26 y_k35 y_k43 y_k51 y_k59 y_k67 y_k75 y_k83 y_k92 y_k100 : ClassId) {A : Nat → Prop} (hAe : A = fun q => s.heap.size ≤ q) (H : Heap) (locs : List Loc) (ls : Array Slot) (hN : nw_all s) (hK : va_K (dC, dI) vwCl [(x_k7, .object "PointRings$Curve"), (x_k8_23, .int), (x_k8_14_38, .int), (x_k17_14_38, .int), (x_k22_38, .int), (y_k8, .int), (y_k17, .int), (y_k26, .int), (y_k35, .int), (y_k43, .int), (y_k51, .int), (y_k59, .int), (y_k67, .int), (y_k75, .int), (y_k83, .int), (y_k92, .boolean), (y_k100, .boolean)] s) (hP : va_P (dC, dI) vwCl [(q0, .inr (4, [.ref x_q7, .int 0, .ref x_q19, .ref x_q30])), (x_q7, .inl (x_k7, 24, .inr (.inr (.inr (.inr (fun _ => none)))))), (x_q19, .inr (1, [.ref x_q8_23, .int 0])), (x_q8_23, .inl (x_k8_23, 10007, .inl (fun _ => 0))), (x_q30, .inr (3, [.ref x_q19, .ref x_q10_38, .ref x_q22_38])), (x_q10_38, .inr (2, [.ref x_q8_14_38, .ref x_q17_14_38, .null, .int 1, .int 0, .int (-1)])), (x_q8_14_38, .inl (x_k8_14_38, 10007, .inl (fun _ => 0))), (x_q17_14_38, .inl (x_k17_14_38, 128, .inl (fun _ => 0))), (x_q22_38, .inl (x_k22_38, 4, .inl (fun _ => 0))), (q8, .inr (5, [.int 0, .int 0, .int 0, .ref y_q8, .ref y_q17, .int 0, .ref y_q26, .int 0, .ref y_q35, .int 0, .ref y_q43, .ref y_q51, .ref y_q59, .ref y_q67, .ref y_q75, .ref y_q83, .ref y_q92, .ref y_q100])), (y_q8, .inl (y_k8, 10008, .inl (fun _ => 0))), (y_q17, .inl (y_k17, 10008, .inl (fun _ => 0))), (y_q26, .inl (y_k26, 10300, .inl (fun _ => 0))), (y_q35, .inl (y_k35, 10008, .inl (fun _ => 0))), (y_q43, .inl (y_k43, 24, .inl (fun _ => 0))), (y_q51, .inl (y_k51, 24, .inl (fun _ => 0))), (y_q59, .inl (y_k59, 24, .inl (fun _ => 0))), (y_q67, .inl (y_k67, 24, .inl (fun _ => 0))), (y_q75, .inl (y_k75, 24, .inl (fun _ => 0))), (y_q83, .inl (y_k83, 24, .inl (fun _ => 0))), (y_q92, .inl (y_k92, 10300, .inl (fun _ => 0))), (y_q100, .inl (y_k100, 64, .inl (fun _ => 0)))] H) (hD : va_D A [(q0, .inr (4, [.ref x_q7, .int 0, .ref x_q19, .ref x_q30])), (x_q7, .inl (x_k7, 24, .inr (.inr (.inr (.inr (fun _ => none)))))), (x_q19, .inr (1, [.ref x_q8_23, .int 0])), (x_q8_23, .inl (x_k8_23, 10007, .inl (fun _ => 0))), (x_q30, .inr (3, [.ref x_q19, .ref x_q10_38, .ref x_q22_38])), (x_q10_38, .inr (2, [.ref x_q8_14_38, .ref x_q17_14_38, .null, .int 1, .int 0, .int (-1)])), (x_q8_14_38, .inl (x_k8_14_38, 10007, .inl (fun _ => 0))), (x_q17_14_38, .inl (x_k17_14_38, 128, .inl (fun _ => 0))), (x_q22_38, .inl (x_k22_38, 4, .inl (fun _ => 0))), (q8, .inr (5, [.int 0, .int 0, .int 0, .ref y_q8, .ref y_q17, .int 0, .ref y_q26, .int 0, .ref y_q35, .int 0, .ref y_q43, .ref y_q51, .ref y_q59, .ref y_q67, .ref y_q75, .ref y_q83, .ref y_q92, .ref y_q100])), (y_q8, .inl (y_k8, 10008, .inl (fun _ => 0))), (y_q17, .inl (y_k17, 10008, .inl (fun _ => 0))), (y_q26, .inl (y_k26, 10300, .inl (fun _ => 0))), (y_q35, .inl (y_k35, 10008, .inl (fun _ => 0))), (y_q43, .inl (y_k43, 24, .inl (fun _ => 0))), (y_q51, .inl (y_k51, 24, .inl (fun _ => 0))), (y_q59, .inl (y_k59, 24, .inl (fun _ => 0))), (y_q67, .inl (y_k67, 24, .inl (fun _ => 0))), (y_q75, .inl (y_k75, 24, .inl (fun _ => 0))), (y_q83, .inl (y_k83, 24, .inl (fun _ => 0))), (y_q92, .inl (y_k92, 10300, .inl (fun _ => 0))), (y_q100, .inl (y_k100, 64, .inl (fun _ => 0)))]) (hS : va_S A s.heap H locs) (hl : lv_has ls 4 [(0, .ref b), (1, .ref q0), (2, .ref q8), (3, .int 0)]) : W p l e room_1 s m #[Value.ref b] below meth c H locs 22 71035 (lw_Z below #[Value.ref b] s) (F0 m 1647 ls []) := by
  obtain ⟨hx, hb, hr, hml, hown, hts, hX, hbl, hlocks, hgv⟩ := id C0
  have hbA : ¬ A b := by rw [hAe]; exact Nat.not_le.mpr hbl
  have hA0 : ∀ q : Nat, s.heap.size ≤ q → A q := fun q h => by rw [hAe]; exact h
  refine lv_aload_n hx hb dL_law_1647 rfl (lv_at hl 1 rfl) ?_
  refine lv_aload_n hx hb dL_law_1648 rfl (lv_at hl 0 rfl) ?_
  refine lv_iload_n hx hb dL_law_1649 rfl (lv_at hl 3 rfl) ?_
  refine lv_iconst (v := 1) hx hb dL_law_1650 (by decide) ?_
  refine lv_iadd hx hb dL_law_1651 ?_
  refine va_sld hx hb hX hbl hbA hS (l1_vin hL7 (vp_in_iff.mpr (by decide +kernel))) dL_law_1652 ?_
  refine lv_topi (fun s1 es1 => ?_)
  refine lv_aload_n hx hb dL_law_1653 rfl (lv_at hl 0 rfl) ?_
  refine lv_iload_n hx hb dL_law_1654 rfl (lv_at hl 3 rfl) ?_
  refine lv_iconst (v := 2) hx hb dL_law_1655 (by decide) ?_
  refine lv_iadd hx hb dL_law_1656 ?_
  refine va_sld hx hb hX hbl hbA hS (l1_vin hL7 (vp_in_iff.mpr (by decide +kernel))) dL_law_1657 ?_
  refine lv_topi (fun s2 es2 => ?_)
  obtain ⟨r165, hr165⟩ : ∃ z, mX5_census N 0 (fun _ => 0) s1 s2 = some z := l1_t_X5_census N hN1 s1 s2
  have hPc := hP.sub (ws' := [(q0, .inr (4, [.ref x_q7, .int 0, .ref x_q19, .ref x_q30])), (x_q19, .inr (1, [.ref x_q8_23, .int 0])), (x_q30, .inr (3, [.ref x_q19, .ref x_q10_38, .ref x_q22_38])), (x_q8_23, .inl (x_k8_23, 10007, .inl (fun _ => 0)))]) [0, 2, 4, 3] rfl
  have hDc := hD.sub (ws' := [(q0, .inr (4, [.ref x_q7, .int 0, .ref x_q19, .ref x_q30])), (x_q19, .inr (1, [.ref x_q8_23, .int 0])), (x_q30, .inr (3, [.ref x_q19, .ref x_q10_38, .ref x_q22_38])), (x_q8_23, .inl (x_k8_23, 10007, .inl (fun _ => 0)))]) [0, 2, 4, 3] (by decide) rfl
  have hKc := hK.sub (tys' := [(x_k8_23, .int)]) [1] rfl
  have hFc := va_free (wc := [(q0, .inr (4, [.ref x_q7, .int 0, .ref x_q19, .ref x_q30])), (x_q19, .inr (1, [.ref x_q8_23, .int 0])), (x_q30, .inr (3, [.ref x_q19, .ref x_q10_38, .ref x_q22_38])), (x_q8_23, .inl (x_k8_23, 10007, .inl (fun _ => 0)))]) hD hS hA0 [0, 2, 4, 3] rfl
  refine va_calli (va_runV (As := [.int s1, .int s2]) (rest := []) ⟨hx, hb, hml, hown, hts⟩ (ctX5_census l N dC dI _ q0 x_q19 x_q30 x_q8_23 x_q7 x_q10_38 x_q22_38 x_k8_23 0 0 (fun _ => 0) s1 s2 r165 hr165) (cwV 2 hts gL1_X5_census rfl rfl rfl (by decide +kernel) ⟨Nat.le_of_ble_eq_true rfl, Nat.le_of_ble_eq_true rfl⟩) ⟨fun a U g mk q => by obtain ⟨q0, q1, qP, qK, qN, qD⟩ := q; exact ⟨q0, q1, qP, va_K.moved (u := U) (U := U.calling g mk a) (Vm.Alike.refl U.vm) qK, nw_same (u := U) (U := U.calling g mk a) rfl qN, qD⟩, va_recv hKc hPc (ci := 4) (q0 := 0) rfl rfl, fun U hU hW => ⟨rfl, by rw [hU], by rw [hU]; exact hPc, va_K.moved hW.alike hKc, nw_warm hW hN, hDc.weaken (fun _ _ _ _ => trivial)⟩⟩ rfl rfl hl.1 rfl (lv_room (Nat.le_of_ble_eq_true rfl)) dL_law_1658 ⟨by decide +kernel, by decide +kernel⟩) hS (fun q _ h => hFc q h) hFc (fun rz u t H1 locs ht hvm hw hB1 hz1 hk1 hS => ?_)
  obtain ⟨u166, f167⟩ := u
  obtain ⟨hP1, hK1, hD1⟩ := hB1
  rw [ht] at hP1
  have hK1 := va_K.moved hvm.symm hK1
  obtain ⟨r168, rfl⟩ : ∃ z, z = rz := ⟨_, rfl⟩
  subst hw
  obtain ⟨hP, hD⟩ := va_join (wr := [(x_q7, .inl (x_k7, 24, .inr (.inr (.inr (.inr (fun _ => none)))))), (x_q10_38, .inr (2, [.ref x_q8_14_38, .ref x_q17_14_38, .null, .int 1, .int 0, .int (-1)])), (x_q8_14_38, .inl (x_k8_14_38, 10007, .inl (fun _ => 0))), (x_q17_14_38, .inl (x_k17_14_38, 128, .inl (fun _ => 0))), (x_q22_38, .inl (x_k22_38, 4, .inl (fun _ => 0))), (q8, .inr (5, [.int 0, .int 0, .int 0, .ref y_q8, .ref y_q17, .int 0, .ref y_q26, .int 0, .ref y_q35, .int 0, .ref y_q43, .ref y_q51, .ref y_q59, .ref y_q67, .ref y_q75, .ref y_q83, .ref y_q92, .ref y_q100])), (y_q8, .inl (y_k8, 10008, .inl (fun _ => 0))), (y_q17, .inl (y_k17, 10008, .inl (fun _ => 0))), (y_q26, .inl (y_k26, 10300, .inl (fun _ => 0))), (y_q35, .inl (y_k35, 10008, .inl (fun _ => 0))), (y_q43, .inl (y_k43, 24, .inl (fun _ => 0))), (y_q51, .inl (y_k51, 24, .inl (fun _ => 0))), (y_q59, .inl (y_k59, 24, .inl (fun _ => 0))), (y_q67, .inl (y_k67, 24, .inl (fun _ => 0))), (y_q75, .inl (y_k75, 24, .inl (fun _ => 0))), (y_q83, .inl (y_k83, 24, .inl (fun _ => 0))), (y_q92, .inl (y_k92, 10300, .inl (fun _ => 0))), (y_q100, .inl (y_k100, 64, .inl (fun _ => 0)))]) (w1 := [(q0, .inr (4, [.ref x_q7, .int 0, .ref x_q19, .ref x_q30])), (x_q19, .inr (1, [.ref x_q8_23, .int u166])), (x_q30, .inr (3, [.ref x_q19, .ref x_q10_38, .ref x_q22_38])), (x_q8_23, .inl (x_k8_23, 10007, .inl f167))]) hP hD [0, 2, 4, 3] [1, 5, 6, 7, 8, 9, 10, 11, 12, 13, 14, 15, 16, 17, 18, 19, 20, 21] rfl rfl (by decide) (by decide) hk1 hFc hP1 hD1
  generalize H1 = H at hP hS ⊢
  have hP := hP.sub (ws' := [(q0, .inr (4, [.ref x_q7, .int 0, .ref x_q19, .ref x_q30])), (x_q7, .inl (x_k7, 24, .inr (.inr (.inr (.inr (fun _ => none)))))), (x_q19, .inr (1, [.ref x_q8_23, .int u166])), (x_q8_23, .inl (x_k8_23, 10007, .inl f167)), (x_q30, .inr (3, [.ref x_q19, .ref x_q10_38, .ref x_q22_38])), (x_q10_38, .inr (2, [.ref x_q8_14_38, .ref x_q17_14_38, .null, .int 1, .int 0, .int (-1)])), (x_q8_14_38, .inl (x_k8_14_38, 10007, .inl (fun _ => 0))), (x_q17_14_38, .inl (x_k17_14_38, 128, .inl (fun _ => 0))), (x_q22_38, .inl (x_k22_38, 4, .inl (fun _ => 0))), (q8, .inr (5, [.int 0, .int 0, .int 0, .ref y_q8, .ref y_q17, .int 0, .ref y_q26, .int 0, .ref y_q35, .int 0, .ref y_q43, .ref y_q51, .ref y_q59, .ref y_q67, .ref y_q75, .ref y_q83, .ref y_q92, .ref y_q100])), (y_q8, .inl (y_k8, 10008, .inl (fun _ => 0))), (y_q17, .inl (y_k17, 10008, .inl (fun _ => 0))), (y_q26, .inl (y_k26, 10300, .inl (fun _ => 0))), (y_q35, .inl (y_k35, 10008, .inl (fun _ => 0))), (y_q43, .inl (y_k43, 24, .inl (fun _ => 0))), (y_q51, .inl (y_k51, 24, .inl (fun _ => 0))), (y_q59, .inl (y_k59, 24, .inl (fun _ => 0))), (y_q67, .inl (y_k67, 24, .inl (fun _ => 0))), (y_q75, .inl (y_k75, 24, .inl (fun _ => 0))), (y_q83, .inl (y_k83, 24, .inl (fun _ => 0))), (y_q92, .inl (y_k92, 10300, .inl (fun _ => 0))), (y_q100, .inl (y_k100, 64, .inl (fun _ => 0)))]) [18, 0, 19, 21, 20, 1, 2, 3, 4, 5, 6, 7, 8, 9, 10, 11, 12, 13, 14, 15, 16, 17] rfl
  have hD := hD.sub (ws' := [(q0, .inr (4, [.ref x_q7, .int 0, .ref x_q19, .ref x_q30])), (x_q7, .inl (x_k7, 24, .inr (.inr (.inr (.inr (fun _ => none)))))), (x_q19, .inr (1, [.ref x_q8_23, .int u166])), (x_q8_23, .inl (x_k8_23, 10007, .inl f167)), (x_q30, .inr (3, [.ref x_q19, .ref x_q10_38, .ref x_q22_38])), (x_q10_38, .inr (2, [.ref x_q8_14_38, .ref x_q17_14_38, .null, .int 1, .int 0, .int (-1)])), (x_q8_14_38, .inl (x_k8_14_38, 10007, .inl (fun _ => 0))), (x_q17_14_38, .inl (x_k17_14_38, 128, .inl (fun _ => 0))), (x_q22_38, .inl (x_k22_38, 4, .inl (fun _ => 0))), (q8, .inr (5, [.int 0, .int 0, .int 0, .ref y_q8, .ref y_q17, .int 0, .ref y_q26, .int 0, .ref y_q35, .int 0, .ref y_q43, .ref y_q51, .ref y_q59, .ref y_q67, .ref y_q75, .ref y_q83, .ref y_q92, .ref y_q100])), (y_q8, .inl (y_k8, 10008, .inl (fun _ => 0))), (y_q17, .inl (y_k17, 10008, .inl (fun _ => 0))), (y_q26, .inl (y_k26, 10300, .inl (fun _ => 0))), (y_q35, .inl (y_k35, 10008, .inl (fun _ => 0))), (y_q43, .inl (y_k43, 24, .inl (fun _ => 0))), (y_q51, .inl (y_k51, 24, .inl (fun _ => 0))), (y_q59, .inl (y_k59, 24, .inl (fun _ => 0))), (y_q67, .inl (y_k67, 24, .inl (fun _ => 0))), (y_q75, .inl (y_k75, 24, .inl (fun _ => 0))), (y_q83, .inl (y_k83, 24, .inl (fun _ => 0))), (y_q92, .inl (y_k92, 10300, .inl (fun _ => 0))), (y_q100, .inl (y_k100, 64, .inl (fun _ => 0)))]) [18, 0, 19, 21, 20, 1, 2, 3, 4, 5, 6, 7, 8, 9, 10, 11, 12, 13, 14, 15, 16, 17] (by decide) rfl
  refine lv_aload_n hx hb dL_law_1661 rfl (lv_at hl 2 rfl) ?_
  refine lv_aload_n hx hb dL_law_1662 rfl (lv_at hl 0 rfl) ?_
  refine lv_iload_n hx hb dL_law_1663 rfl (lv_at hl 3 rfl) ?_
  refine lv_iconst (v := 1) hx hb dL_law_1664 (by decide) ?_
  refine lv_iadd hx hb dL_law_1665 ?_
  refine va_sld hx hb hX hbl hbA hS (l1_vin hL7 (vp_in_iff.mpr (by decide +kernel))) dL_law_1666 ?_
  rw [← es1]
  refine lv_aload_n hx hb dL_law_1667 rfl (lv_at hl 0 rfl) ?_
  refine lv_iload_n hx hb dL_law_1668 rfl (lv_at hl 3 rfl) ?_
  refine lv_iconst (v := 2) hx hb dL_law_1669 (by decide) ?_
  refine lv_iadd hx hb dL_law_1670 ?_
  refine va_sld hx hb hX hbl hbA hS (l1_vin hL7 (vp_in_iff.mpr (by decide +kernel))) dL_law_1671 ?_
  rw [← es2]
  obtain ⟨r169, hr169⟩ : ∃ z, mX6_census N 0 0 0 0 0 (fun _ => 0) (fun _ => 0) (fun _ => 0) s1 s2 = some z := l1_t_X6_census N hN1 s1 s2
  have hPc := hP.sub (ws' := [(q8, .inr (5, [.int 0, .int 0, .int 0, .ref y_q8, .ref y_q17, .int 0, .ref y_q26, .int 0, .ref y_q35, .int 0, .ref y_q43, .ref y_q51, .ref y_q59, .ref y_q67, .ref y_q75, .ref y_q83, .ref y_q92, .ref y_q100])), (y_q8, .inl (y_k8, 10008, .inl (fun _ => 0))), (y_q17, .inl (y_k17, 10008, .inl (fun _ => 0))), (y_q100, .inl (y_k100, 64, .inl (fun _ => 0)))]) [9, 10, 11, 21] rfl
  have hDc := hD.sub (ws' := [(q8, .inr (5, [.int 0, .int 0, .int 0, .ref y_q8, .ref y_q17, .int 0, .ref y_q26, .int 0, .ref y_q35, .int 0, .ref y_q43, .ref y_q51, .ref y_q59, .ref y_q67, .ref y_q75, .ref y_q83, .ref y_q92, .ref y_q100])), (y_q8, .inl (y_k8, 10008, .inl (fun _ => 0))), (y_q17, .inl (y_k17, 10008, .inl (fun _ => 0))), (y_q100, .inl (y_k100, 64, .inl (fun _ => 0)))]) [9, 10, 11, 21] (by decide) rfl
  have hKc := hK.sub (tys' := [(y_k8, .int), (y_k17, .int), (y_k100, .boolean)]) [5, 6, 16] rfl
  have hFc := va_free (wc := [(q8, .inr (5, [.int 0, .int 0, .int 0, .ref y_q8, .ref y_q17, .int 0, .ref y_q26, .int 0, .ref y_q35, .int 0, .ref y_q43, .ref y_q51, .ref y_q59, .ref y_q67, .ref y_q75, .ref y_q83, .ref y_q92, .ref y_q100])), (y_q8, .inl (y_k8, 10008, .inl (fun _ => 0))), (y_q17, .inl (y_k17, 10008, .inl (fun _ => 0))), (y_q100, .inl (y_k100, 64, .inl (fun _ => 0)))]) hD hS hA0 [9, 10, 11, 21] rfl
  refine va_calli (va_runV (As := [.int s1, .int s2]) (rest := [.int r168]) ⟨hx, hb, hml, hown, hts⟩ (ctX6_census l N dC dI _ q8 y_q8 y_q17 y_q100 y_q26 y_q35 y_q43 y_q51 y_q59 y_q67 y_q75 y_q83 y_q92 y_k8 y_k17 y_k100 0 0 0 0 0 0 (fun _ => 0) (fun _ => 0) (fun _ => 0) s1 s2 r169 hr169) (cwV 2 hts gL1_X6_census rfl rfl rfl (by decide +kernel) ⟨Nat.le_of_ble_eq_true rfl, Nat.le_of_ble_eq_true rfl⟩) ⟨fun a U g mk q => by obtain ⟨q0, q1, qP, qK, qN, qD⟩ := q; exact ⟨q0, q1, qP, va_K.moved (u := U) (U := U.calling g mk a) (Vm.Alike.refl U.vm) qK, nw_same (u := U) (U := U.calling g mk a) rfl qN, qD⟩, va_recv hKc hPc (ci := 5) (q0 := 0) rfl rfl, fun U hU hW => ⟨rfl, by rw [hU], by rw [hU]; exact hPc, va_K.moved hW.alike hKc, nw_warm hW hN, hDc.weaken (fun _ _ _ _ => trivial)⟩⟩ rfl rfl hl.1 rfl (lv_room (Nat.le_of_ble_eq_true rfl)) dL_law_1672 ⟨by decide +kernel, by decide +kernel⟩) hS (fun q _ h => hFc q h) hFc (fun rz u t H1 locs ht hvm hw hB1 hz1 hk1 hS => ?_)
  obtain ⟨u170, u171, u172, u173, u174, f175, f176, f177⟩ := u
  obtain ⟨hP1, hK1, hD1⟩ := hB1
  rw [ht] at hP1
  have hK1 := va_K.moved hvm.symm hK1
  obtain ⟨r178, rfl⟩ : ∃ z, z = rz := ⟨_, rfl⟩
  subst hw
  obtain ⟨hP, hD⟩ := va_join (wr := [(q0, .inr (4, [.ref x_q7, .int 0, .ref x_q19, .ref x_q30])), (x_q7, .inl (x_k7, 24, .inr (.inr (.inr (.inr (fun _ => none)))))), (x_q19, .inr (1, [.ref x_q8_23, .int u166])), (x_q8_23, .inl (x_k8_23, 10007, .inl f167)), (x_q30, .inr (3, [.ref x_q19, .ref x_q10_38, .ref x_q22_38])), (x_q10_38, .inr (2, [.ref x_q8_14_38, .ref x_q17_14_38, .null, .int 1, .int 0, .int (-1)])), (x_q8_14_38, .inl (x_k8_14_38, 10007, .inl (fun _ => 0))), (x_q17_14_38, .inl (x_k17_14_38, 128, .inl (fun _ => 0))), (x_q22_38, .inl (x_k22_38, 4, .inl (fun _ => 0))), (y_q26, .inl (y_k26, 10300, .inl (fun _ => 0))), (y_q35, .inl (y_k35, 10008, .inl (fun _ => 0))), (y_q43, .inl (y_k43, 24, .inl (fun _ => 0))), (y_q51, .inl (y_k51, 24, .inl (fun _ => 0))), (y_q59, .inl (y_k59, 24, .inl (fun _ => 0))), (y_q67, .inl (y_k67, 24, .inl (fun _ => 0))), (y_q75, .inl (y_k75, 24, .inl (fun _ => 0))), (y_q83, .inl (y_k83, 24, .inl (fun _ => 0))), (y_q92, .inl (y_k92, 10300, .inl (fun _ => 0)))]) (w1 := [(q8, .inr (5, [.int u170, .int u171, .int u172, .ref y_q8, .ref y_q17, .int u173, .ref y_q26, .int u174, .ref y_q35, .int 0, .ref y_q43, .ref y_q51, .ref y_q59, .ref y_q67, .ref y_q75, .ref y_q83, .ref y_q92, .ref y_q100])), (y_q8, .inl (y_k8, 10008, .inl f175)), (y_q17, .inl (y_k17, 10008, .inl f176)), (y_q100, .inl (y_k100, 64, .inl f177))]) hP hD [9, 10, 11, 21] [0, 1, 2, 3, 4, 5, 6, 7, 8, 12, 13, 14, 15, 16, 17, 18, 19, 20] rfl rfl (by decide) (by decide) hk1 hFc hP1 hD1
  generalize H1 = H at hP hS ⊢
  have hP := hP.sub (ws' := [(q0, .inr (4, [.ref x_q7, .int 0, .ref x_q19, .ref x_q30])), (x_q7, .inl (x_k7, 24, .inr (.inr (.inr (.inr (fun _ => none)))))), (x_q19, .inr (1, [.ref x_q8_23, .int u166])), (x_q8_23, .inl (x_k8_23, 10007, .inl f167)), (x_q30, .inr (3, [.ref x_q19, .ref x_q10_38, .ref x_q22_38])), (x_q10_38, .inr (2, [.ref x_q8_14_38, .ref x_q17_14_38, .null, .int 1, .int 0, .int (-1)])), (x_q8_14_38, .inl (x_k8_14_38, 10007, .inl (fun _ => 0))), (x_q17_14_38, .inl (x_k17_14_38, 128, .inl (fun _ => 0))), (x_q22_38, .inl (x_k22_38, 4, .inl (fun _ => 0))), (q8, .inr (5, [.int u170, .int u171, .int u172, .ref y_q8, .ref y_q17, .int u173, .ref y_q26, .int u174, .ref y_q35, .int 0, .ref y_q43, .ref y_q51, .ref y_q59, .ref y_q67, .ref y_q75, .ref y_q83, .ref y_q92, .ref y_q100])), (y_q8, .inl (y_k8, 10008, .inl f175)), (y_q17, .inl (y_k17, 10008, .inl f176)), (y_q26, .inl (y_k26, 10300, .inl (fun _ => 0))), (y_q35, .inl (y_k35, 10008, .inl (fun _ => 0))), (y_q43, .inl (y_k43, 24, .inl (fun _ => 0))), (y_q51, .inl (y_k51, 24, .inl (fun _ => 0))), (y_q59, .inl (y_k59, 24, .inl (fun _ => 0))), (y_q67, .inl (y_k67, 24, .inl (fun _ => 0))), (y_q75, .inl (y_k75, 24, .inl (fun _ => 0))), (y_q83, .inl (y_k83, 24, .inl (fun _ => 0))), (y_q92, .inl (y_k92, 10300, .inl (fun _ => 0))), (y_q100, .inl (y_k100, 64, .inl f177))]) [0, 1, 2, 3, 4, 5, 6, 7, 8, 18, 19, 20, 9, 10, 11, 12, 13, 14, 15, 16, 17, 21] rfl
  have hD := hD.sub (ws' := [(q0, .inr (4, [.ref x_q7, .int 0, .ref x_q19, .ref x_q30])), (x_q7, .inl (x_k7, 24, .inr (.inr (.inr (.inr (fun _ => none)))))), (x_q19, .inr (1, [.ref x_q8_23, .int u166])), (x_q8_23, .inl (x_k8_23, 10007, .inl f167)), (x_q30, .inr (3, [.ref x_q19, .ref x_q10_38, .ref x_q22_38])), (x_q10_38, .inr (2, [.ref x_q8_14_38, .ref x_q17_14_38, .null, .int 1, .int 0, .int (-1)])), (x_q8_14_38, .inl (x_k8_14_38, 10007, .inl (fun _ => 0))), (x_q17_14_38, .inl (x_k17_14_38, 128, .inl (fun _ => 0))), (x_q22_38, .inl (x_k22_38, 4, .inl (fun _ => 0))), (q8, .inr (5, [.int u170, .int u171, .int u172, .ref y_q8, .ref y_q17, .int u173, .ref y_q26, .int u174, .ref y_q35, .int 0, .ref y_q43, .ref y_q51, .ref y_q59, .ref y_q67, .ref y_q75, .ref y_q83, .ref y_q92, .ref y_q100])), (y_q8, .inl (y_k8, 10008, .inl f175)), (y_q17, .inl (y_k17, 10008, .inl f176)), (y_q26, .inl (y_k26, 10300, .inl (fun _ => 0))), (y_q35, .inl (y_k35, 10008, .inl (fun _ => 0))), (y_q43, .inl (y_k43, 24, .inl (fun _ => 0))), (y_q51, .inl (y_k51, 24, .inl (fun _ => 0))), (y_q59, .inl (y_k59, 24, .inl (fun _ => 0))), (y_q67, .inl (y_k67, 24, .inl (fun _ => 0))), (y_q75, .inl (y_k75, 24, .inl (fun _ => 0))), (y_q83, .inl (y_k83, 24, .inl (fun _ => 0))), (y_q92, .inl (y_k92, 10300, .inl (fun _ => 0))), (y_q100, .inl (y_k100, 64, .inl f177))]) [0, 1, 2, 3, 4, 5, 6, 7, 8, 18, 19, 20, 9, 10, 11, 12, 13, 14, 15, 16, 17, 21] (by decide) rfl
  refine lv_icmp_eq (tgt := 1739) hx hb dL_law_1675 (by decide) (fun c179 => ?_) (fun c179 => ?_)
  · exact law1_end hL C0 hAe (by decide +kernel) (by decide +kernel) hS ls (lv_sub hl [0, 3] rfl)
  · exact absurd (l1_eq_census N hN1 hr165 hr169) c179
set_option maxHeartbeats 4000000 in
set_option maxRecDepth 100000 in
theorem law1_c37 {p : Program} {l : Launch} {e : Env} {s : State} {m : MethodId} {below : List Frame} {meth : Method} {c : Code} {b L : Nat} {xs : Nat → Int32} (hL : L ≤ 7) (hL7 : L = 7) (C0 : lw_At p s m meth c b L xs) (N : Nat) (hN1 : 20000 ≤ N) (dC : Nat → ClassId) (dI : Nat → Nat → Nat) (q0 x_q7 x_q19 x_q8_23 x_q30 x_q10_38 x_q8_14_38 x_q17_14_38 x_q22_38 q8 y_q8 y_q17 y_q26 y_q35 y_q43 y_q51 y_q59 y_q67 y_q75 y_q83 y_q92 y_q100 : Nat) (x_k7 x_k8_23 x_k8_14_38 x_k17_14_38 x_k22_38 y_k8 y_k17 y_k26 y_k35 y_k43 y_k51 y_k59 y_k67 y_k75 y_k83 y_k92 y_k100 : ClassId) {A : Nat → Prop} (hAe : A = fun q => s.heap.size ≤ q) (H : Heap) (locs : List Loc) (ls : Array Slot) (hN : nw_all s) (hK : va_K (dC, dI) vwCl [(x_k7, .object "PointRings$Curve"), (x_k8_23, .int), (x_k8_14_38, .int), (x_k17_14_38, .int), (x_k22_38, .int), (y_k8, .int), (y_k17, .int), (y_k26, .int), (y_k35, .int), (y_k43, .int), (y_k51, .int), (y_k59, .int), (y_k67, .int), (y_k75, .int), (y_k83, .int), (y_k92, .boolean), (y_k100, .boolean)] s) (hP : va_P (dC, dI) vwCl [(q0, .inr (4, [.ref x_q7, .int 0, .ref x_q19, .ref x_q30])), (x_q7, .inl (x_k7, 24, .inr (.inr (.inr (.inr (fun _ => none)))))), (x_q19, .inr (1, [.ref x_q8_23, .int 0])), (x_q8_23, .inl (x_k8_23, 10007, .inl (fun _ => 0))), (x_q30, .inr (3, [.ref x_q19, .ref x_q10_38, .ref x_q22_38])), (x_q10_38, .inr (2, [.ref x_q8_14_38, .ref x_q17_14_38, .null, .int 1, .int 0, .int (-1)])), (x_q8_14_38, .inl (x_k8_14_38, 10007, .inl (fun _ => 0))), (x_q17_14_38, .inl (x_k17_14_38, 128, .inl (fun _ => 0))), (x_q22_38, .inl (x_k22_38, 4, .inl (fun _ => 0))), (q8, .inr (5, [.int 0, .int 0, .int 0, .ref y_q8, .ref y_q17, .int 0, .ref y_q26, .int 0, .ref y_q35, .int 0, .ref y_q43, .ref y_q51, .ref y_q59, .ref y_q67, .ref y_q75, .ref y_q83, .ref y_q92, .ref y_q100])), (y_q8, .inl (y_k8, 10008, .inl (fun _ => 0))), (y_q17, .inl (y_k17, 10008, .inl (fun _ => 0))), (y_q26, .inl (y_k26, 10300, .inl (fun _ => 0))), (y_q35, .inl (y_k35, 10008, .inl (fun _ => 0))), (y_q43, .inl (y_k43, 24, .inl (fun _ => 0))), (y_q51, .inl (y_k51, 24, .inl (fun _ => 0))), (y_q59, .inl (y_k59, 24, .inl (fun _ => 0))), (y_q67, .inl (y_k67, 24, .inl (fun _ => 0))), (y_q75, .inl (y_k75, 24, .inl (fun _ => 0))), (y_q83, .inl (y_k83, 24, .inl (fun _ => 0))), (y_q92, .inl (y_k92, 10300, .inl (fun _ => 0))), (y_q100, .inl (y_k100, 64, .inl (fun _ => 0)))] H) (hD : va_D A [(q0, .inr (4, [.ref x_q7, .int 0, .ref x_q19, .ref x_q30])), (x_q7, .inl (x_k7, 24, .inr (.inr (.inr (.inr (fun _ => none)))))), (x_q19, .inr (1, [.ref x_q8_23, .int 0])), (x_q8_23, .inl (x_k8_23, 10007, .inl (fun _ => 0))), (x_q30, .inr (3, [.ref x_q19, .ref x_q10_38, .ref x_q22_38])), (x_q10_38, .inr (2, [.ref x_q8_14_38, .ref x_q17_14_38, .null, .int 1, .int 0, .int (-1)])), (x_q8_14_38, .inl (x_k8_14_38, 10007, .inl (fun _ => 0))), (x_q17_14_38, .inl (x_k17_14_38, 128, .inl (fun _ => 0))), (x_q22_38, .inl (x_k22_38, 4, .inl (fun _ => 0))), (q8, .inr (5, [.int 0, .int 0, .int 0, .ref y_q8, .ref y_q17, .int 0, .ref y_q26, .int 0, .ref y_q35, .int 0, .ref y_q43, .ref y_q51, .ref y_q59, .ref y_q67, .ref y_q75, .ref y_q83, .ref y_q92, .ref y_q100])), (y_q8, .inl (y_k8, 10008, .inl (fun _ => 0))), (y_q17, .inl (y_k17, 10008, .inl (fun _ => 0))), (y_q26, .inl (y_k26, 10300, .inl (fun _ => 0))), (y_q35, .inl (y_k35, 10008, .inl (fun _ => 0))), (y_q43, .inl (y_k43, 24, .inl (fun _ => 0))), (y_q51, .inl (y_k51, 24, .inl (fun _ => 0))), (y_q59, .inl (y_k59, 24, .inl (fun _ => 0))), (y_q67, .inl (y_k67, 24, .inl (fun _ => 0))), (y_q75, .inl (y_k75, 24, .inl (fun _ => 0))), (y_q83, .inl (y_k83, 24, .inl (fun _ => 0))), (y_q92, .inl (y_k92, 10300, .inl (fun _ => 0))), (y_q100, .inl (y_k100, 64, .inl (fun _ => 0)))]) (hS : va_S A s.heap H locs) (hl : lv_has ls 4 [(0, .ref b), (1, .ref q0), (2, .ref q8), (3, .int 0)]) : W p l e room_1 s m #[Value.ref b] below meth c H locs 22 71035 (lw_Z below #[Value.ref b] s) (F0 m 1680 ls []) := by
  obtain ⟨hx, hb, hr, hml, hown, hts, hX, hbl, hlocks, hgv⟩ := id C0
  have hbA : ¬ A b := by rw [hAe]; exact Nat.not_le.mpr hbl
  have hA0 : ∀ q : Nat, s.heap.size ≤ q → A q := fun q h => by rw [hAe]; exact h
  refine lv_aload_n hx hb dL_law_1680 rfl (lv_at hl 1 rfl) ?_
  refine lv_aload_n hx hb dL_law_1681 rfl (lv_at hl 0 rfl) ?_
  refine lv_iload_n hx hb dL_law_1682 rfl (lv_at hl 3 rfl) ?_
  refine lv_iconst (v := 1) hx hb dL_law_1683 (by decide) ?_
  refine lv_iadd hx hb dL_law_1684 ?_
  refine va_sld hx hb hX hbl hbA hS (l1_vin hL7 (vp_in_iff.mpr (by decide +kernel))) dL_law_1685 ?_
  refine lv_topi (fun s1 es1 => ?_)
  refine lv_aload_n hx hb dL_law_1686 rfl (lv_at hl 0 rfl) ?_
  refine lv_iload_n hx hb dL_law_1687 rfl (lv_at hl 3 rfl) ?_
  refine lv_iconst (v := 2) hx hb dL_law_1688 (by decide) ?_
  refine lv_iadd hx hb dL_law_1689 ?_
  refine va_sld hx hb hX hbl hbA hS (l1_vin hL7 (vp_in_iff.mpr (by decide +kernel))) dL_law_1690 ?_
  refine lv_topi (fun s2 es2 => ?_)
  obtain ⟨r180, hr180⟩ : ∃ z, mX5_kinds N 0 (fun _ => 0) s1 s2 = some z := l1_t_X5_kinds N hN1 s1 s2
  have hPc := hP.sub (ws' := [(q0, .inr (4, [.ref x_q7, .int 0, .ref x_q19, .ref x_q30])), (x_q19, .inr (1, [.ref x_q8_23, .int 0])), (x_q30, .inr (3, [.ref x_q19, .ref x_q10_38, .ref x_q22_38])), (x_q8_23, .inl (x_k8_23, 10007, .inl (fun _ => 0)))]) [0, 2, 4, 3] rfl
  have hDc := hD.sub (ws' := [(q0, .inr (4, [.ref x_q7, .int 0, .ref x_q19, .ref x_q30])), (x_q19, .inr (1, [.ref x_q8_23, .int 0])), (x_q30, .inr (3, [.ref x_q19, .ref x_q10_38, .ref x_q22_38])), (x_q8_23, .inl (x_k8_23, 10007, .inl (fun _ => 0)))]) [0, 2, 4, 3] (by decide) rfl
  have hKc := hK.sub (tys' := [(x_k8_23, .int)]) [1] rfl
  have hFc := va_free (wc := [(q0, .inr (4, [.ref x_q7, .int 0, .ref x_q19, .ref x_q30])), (x_q19, .inr (1, [.ref x_q8_23, .int 0])), (x_q30, .inr (3, [.ref x_q19, .ref x_q10_38, .ref x_q22_38])), (x_q8_23, .inl (x_k8_23, 10007, .inl (fun _ => 0)))]) hD hS hA0 [0, 2, 4, 3] rfl
  refine va_calli (va_runV (As := [.int s1, .int s2]) (rest := []) ⟨hx, hb, hml, hown, hts⟩ (ctX5_kinds l N dC dI _ q0 x_q19 x_q30 x_q8_23 x_q7 x_q10_38 x_q22_38 x_k8_23 0 0 (fun _ => 0) s1 s2 r180 hr180) (cwV 2 hts gL1_X5_kinds rfl rfl rfl (by decide +kernel) ⟨Nat.le_of_ble_eq_true rfl, Nat.le_of_ble_eq_true rfl⟩) ⟨fun a U g mk q => by obtain ⟨q0, q1, qP, qK, qN, qD⟩ := q; exact ⟨q0, q1, qP, va_K.moved (u := U) (U := U.calling g mk a) (Vm.Alike.refl U.vm) qK, nw_same (u := U) (U := U.calling g mk a) rfl qN, qD⟩, va_recv hKc hPc (ci := 4) (q0 := 0) rfl rfl, fun U hU hW => ⟨rfl, by rw [hU], by rw [hU]; exact hPc, va_K.moved hW.alike hKc, nw_warm hW hN, hDc.weaken (fun _ _ _ _ => trivial)⟩⟩ rfl rfl hl.1 rfl (lv_room (Nat.le_of_ble_eq_true rfl)) dL_law_1691 ⟨by decide +kernel, by decide +kernel⟩) hS (fun q _ h => hFc q h) hFc (fun rz u t H1 locs ht hvm hw hB1 hz1 hk1 hS => ?_)
  obtain ⟨u181, f182⟩ := u
  obtain ⟨hP1, hK1, hD1⟩ := hB1
  rw [ht] at hP1
  have hK1 := va_K.moved hvm.symm hK1
  obtain ⟨r183, rfl⟩ : ∃ z, z = rz := ⟨_, rfl⟩
  subst hw
  obtain ⟨hP, hD⟩ := va_join (wr := [(x_q7, .inl (x_k7, 24, .inr (.inr (.inr (.inr (fun _ => none)))))), (x_q10_38, .inr (2, [.ref x_q8_14_38, .ref x_q17_14_38, .null, .int 1, .int 0, .int (-1)])), (x_q8_14_38, .inl (x_k8_14_38, 10007, .inl (fun _ => 0))), (x_q17_14_38, .inl (x_k17_14_38, 128, .inl (fun _ => 0))), (x_q22_38, .inl (x_k22_38, 4, .inl (fun _ => 0))), (q8, .inr (5, [.int 0, .int 0, .int 0, .ref y_q8, .ref y_q17, .int 0, .ref y_q26, .int 0, .ref y_q35, .int 0, .ref y_q43, .ref y_q51, .ref y_q59, .ref y_q67, .ref y_q75, .ref y_q83, .ref y_q92, .ref y_q100])), (y_q8, .inl (y_k8, 10008, .inl (fun _ => 0))), (y_q17, .inl (y_k17, 10008, .inl (fun _ => 0))), (y_q26, .inl (y_k26, 10300, .inl (fun _ => 0))), (y_q35, .inl (y_k35, 10008, .inl (fun _ => 0))), (y_q43, .inl (y_k43, 24, .inl (fun _ => 0))), (y_q51, .inl (y_k51, 24, .inl (fun _ => 0))), (y_q59, .inl (y_k59, 24, .inl (fun _ => 0))), (y_q67, .inl (y_k67, 24, .inl (fun _ => 0))), (y_q75, .inl (y_k75, 24, .inl (fun _ => 0))), (y_q83, .inl (y_k83, 24, .inl (fun _ => 0))), (y_q92, .inl (y_k92, 10300, .inl (fun _ => 0))), (y_q100, .inl (y_k100, 64, .inl (fun _ => 0)))]) (w1 := [(q0, .inr (4, [.ref x_q7, .int 0, .ref x_q19, .ref x_q30])), (x_q19, .inr (1, [.ref x_q8_23, .int u181])), (x_q30, .inr (3, [.ref x_q19, .ref x_q10_38, .ref x_q22_38])), (x_q8_23, .inl (x_k8_23, 10007, .inl f182))]) hP hD [0, 2, 4, 3] [1, 5, 6, 7, 8, 9, 10, 11, 12, 13, 14, 15, 16, 17, 18, 19, 20, 21] rfl rfl (by decide) (by decide) hk1 hFc hP1 hD1
  generalize H1 = H at hP hS ⊢
  have hP := hP.sub (ws' := [(q0, .inr (4, [.ref x_q7, .int 0, .ref x_q19, .ref x_q30])), (x_q7, .inl (x_k7, 24, .inr (.inr (.inr (.inr (fun _ => none)))))), (x_q19, .inr (1, [.ref x_q8_23, .int u181])), (x_q8_23, .inl (x_k8_23, 10007, .inl f182)), (x_q30, .inr (3, [.ref x_q19, .ref x_q10_38, .ref x_q22_38])), (x_q10_38, .inr (2, [.ref x_q8_14_38, .ref x_q17_14_38, .null, .int 1, .int 0, .int (-1)])), (x_q8_14_38, .inl (x_k8_14_38, 10007, .inl (fun _ => 0))), (x_q17_14_38, .inl (x_k17_14_38, 128, .inl (fun _ => 0))), (x_q22_38, .inl (x_k22_38, 4, .inl (fun _ => 0))), (q8, .inr (5, [.int 0, .int 0, .int 0, .ref y_q8, .ref y_q17, .int 0, .ref y_q26, .int 0, .ref y_q35, .int 0, .ref y_q43, .ref y_q51, .ref y_q59, .ref y_q67, .ref y_q75, .ref y_q83, .ref y_q92, .ref y_q100])), (y_q8, .inl (y_k8, 10008, .inl (fun _ => 0))), (y_q17, .inl (y_k17, 10008, .inl (fun _ => 0))), (y_q26, .inl (y_k26, 10300, .inl (fun _ => 0))), (y_q35, .inl (y_k35, 10008, .inl (fun _ => 0))), (y_q43, .inl (y_k43, 24, .inl (fun _ => 0))), (y_q51, .inl (y_k51, 24, .inl (fun _ => 0))), (y_q59, .inl (y_k59, 24, .inl (fun _ => 0))), (y_q67, .inl (y_k67, 24, .inl (fun _ => 0))), (y_q75, .inl (y_k75, 24, .inl (fun _ => 0))), (y_q83, .inl (y_k83, 24, .inl (fun _ => 0))), (y_q92, .inl (y_k92, 10300, .inl (fun _ => 0))), (y_q100, .inl (y_k100, 64, .inl (fun _ => 0)))]) [18, 0, 19, 21, 20, 1, 2, 3, 4, 5, 6, 7, 8, 9, 10, 11, 12, 13, 14, 15, 16, 17] rfl
  have hD := hD.sub (ws' := [(q0, .inr (4, [.ref x_q7, .int 0, .ref x_q19, .ref x_q30])), (x_q7, .inl (x_k7, 24, .inr (.inr (.inr (.inr (fun _ => none)))))), (x_q19, .inr (1, [.ref x_q8_23, .int u181])), (x_q8_23, .inl (x_k8_23, 10007, .inl f182)), (x_q30, .inr (3, [.ref x_q19, .ref x_q10_38, .ref x_q22_38])), (x_q10_38, .inr (2, [.ref x_q8_14_38, .ref x_q17_14_38, .null, .int 1, .int 0, .int (-1)])), (x_q8_14_38, .inl (x_k8_14_38, 10007, .inl (fun _ => 0))), (x_q17_14_38, .inl (x_k17_14_38, 128, .inl (fun _ => 0))), (x_q22_38, .inl (x_k22_38, 4, .inl (fun _ => 0))), (q8, .inr (5, [.int 0, .int 0, .int 0, .ref y_q8, .ref y_q17, .int 0, .ref y_q26, .int 0, .ref y_q35, .int 0, .ref y_q43, .ref y_q51, .ref y_q59, .ref y_q67, .ref y_q75, .ref y_q83, .ref y_q92, .ref y_q100])), (y_q8, .inl (y_k8, 10008, .inl (fun _ => 0))), (y_q17, .inl (y_k17, 10008, .inl (fun _ => 0))), (y_q26, .inl (y_k26, 10300, .inl (fun _ => 0))), (y_q35, .inl (y_k35, 10008, .inl (fun _ => 0))), (y_q43, .inl (y_k43, 24, .inl (fun _ => 0))), (y_q51, .inl (y_k51, 24, .inl (fun _ => 0))), (y_q59, .inl (y_k59, 24, .inl (fun _ => 0))), (y_q67, .inl (y_k67, 24, .inl (fun _ => 0))), (y_q75, .inl (y_k75, 24, .inl (fun _ => 0))), (y_q83, .inl (y_k83, 24, .inl (fun _ => 0))), (y_q92, .inl (y_k92, 10300, .inl (fun _ => 0))), (y_q100, .inl (y_k100, 64, .inl (fun _ => 0)))]) [18, 0, 19, 21, 20, 1, 2, 3, 4, 5, 6, 7, 8, 9, 10, 11, 12, 13, 14, 15, 16, 17] (by decide) rfl
  refine lv_aload_n hx hb dL_law_1694 rfl (lv_at hl 2 rfl) ?_
  refine lv_aload_n hx hb dL_law_1695 rfl (lv_at hl 0 rfl) ?_
  refine lv_iload_n hx hb dL_law_1696 rfl (lv_at hl 3 rfl) ?_
  refine lv_iconst (v := 1) hx hb dL_law_1697 (by decide) ?_
  refine lv_iadd hx hb dL_law_1698 ?_
  refine va_sld hx hb hX hbl hbA hS (l1_vin hL7 (vp_in_iff.mpr (by decide +kernel))) dL_law_1699 ?_
  rw [← es1]
  refine lv_aload_n hx hb dL_law_1700 rfl (lv_at hl 0 rfl) ?_
  refine lv_iload_n hx hb dL_law_1701 rfl (lv_at hl 3 rfl) ?_
  refine lv_iconst (v := 2) hx hb dL_law_1702 (by decide) ?_
  refine lv_iadd hx hb dL_law_1703 ?_
  refine va_sld hx hb hX hbl hbA hS (l1_vin hL7 (vp_in_iff.mpr (by decide +kernel))) dL_law_1704 ?_
  rw [← es2]
  obtain ⟨r184, hr184⟩ : ∃ z, mX6_kinds N 0 0 0 0 0 (fun _ => 0) (fun _ => 0) (fun _ => 0) s1 s2 = some z := l1_t_X6_kinds N hN1 s1 s2
  have hPc := hP.sub (ws' := [(q8, .inr (5, [.int 0, .int 0, .int 0, .ref y_q8, .ref y_q17, .int 0, .ref y_q26, .int 0, .ref y_q35, .int 0, .ref y_q43, .ref y_q51, .ref y_q59, .ref y_q67, .ref y_q75, .ref y_q83, .ref y_q92, .ref y_q100])), (y_q8, .inl (y_k8, 10008, .inl (fun _ => 0))), (y_q17, .inl (y_k17, 10008, .inl (fun _ => 0))), (y_q100, .inl (y_k100, 64, .inl (fun _ => 0)))]) [9, 10, 11, 21] rfl
  have hDc := hD.sub (ws' := [(q8, .inr (5, [.int 0, .int 0, .int 0, .ref y_q8, .ref y_q17, .int 0, .ref y_q26, .int 0, .ref y_q35, .int 0, .ref y_q43, .ref y_q51, .ref y_q59, .ref y_q67, .ref y_q75, .ref y_q83, .ref y_q92, .ref y_q100])), (y_q8, .inl (y_k8, 10008, .inl (fun _ => 0))), (y_q17, .inl (y_k17, 10008, .inl (fun _ => 0))), (y_q100, .inl (y_k100, 64, .inl (fun _ => 0)))]) [9, 10, 11, 21] (by decide) rfl
  have hKc := hK.sub (tys' := [(y_k8, .int), (y_k17, .int), (y_k100, .boolean)]) [5, 6, 16] rfl
  have hFc := va_free (wc := [(q8, .inr (5, [.int 0, .int 0, .int 0, .ref y_q8, .ref y_q17, .int 0, .ref y_q26, .int 0, .ref y_q35, .int 0, .ref y_q43, .ref y_q51, .ref y_q59, .ref y_q67, .ref y_q75, .ref y_q83, .ref y_q92, .ref y_q100])), (y_q8, .inl (y_k8, 10008, .inl (fun _ => 0))), (y_q17, .inl (y_k17, 10008, .inl (fun _ => 0))), (y_q100, .inl (y_k100, 64, .inl (fun _ => 0)))]) hD hS hA0 [9, 10, 11, 21] rfl
  refine va_calli (va_runV (As := [.int s1, .int s2]) (rest := [.int r183]) ⟨hx, hb, hml, hown, hts⟩ (ctX6_kinds l N dC dI _ q8 y_q8 y_q17 y_q100 y_q26 y_q35 y_q43 y_q51 y_q59 y_q67 y_q75 y_q83 y_q92 y_k8 y_k17 y_k100 0 0 0 0 0 0 (fun _ => 0) (fun _ => 0) (fun _ => 0) s1 s2 r184 hr184) (cwV 2 hts gL1_X6_kinds rfl rfl rfl (by decide +kernel) ⟨Nat.le_of_ble_eq_true rfl, Nat.le_of_ble_eq_true rfl⟩) ⟨fun a U g mk q => by obtain ⟨q0, q1, qP, qK, qN, qD⟩ := q; exact ⟨q0, q1, qP, va_K.moved (u := U) (U := U.calling g mk a) (Vm.Alike.refl U.vm) qK, nw_same (u := U) (U := U.calling g mk a) rfl qN, qD⟩, va_recv hKc hPc (ci := 5) (q0 := 0) rfl rfl, fun U hU hW => ⟨rfl, by rw [hU], by rw [hU]; exact hPc, va_K.moved hW.alike hKc, nw_warm hW hN, hDc.weaken (fun _ _ _ _ => trivial)⟩⟩ rfl rfl hl.1 rfl (lv_room (Nat.le_of_ble_eq_true rfl)) dL_law_1705 ⟨by decide +kernel, by decide +kernel⟩) hS (fun q _ h => hFc q h) hFc (fun rz u t H1 locs ht hvm hw hB1 hz1 hk1 hS => ?_)
  obtain ⟨u185, u186, u187, u188, u189, f190, f191, f192⟩ := u
  obtain ⟨hP1, hK1, hD1⟩ := hB1
  rw [ht] at hP1
  have hK1 := va_K.moved hvm.symm hK1
  obtain ⟨r193, rfl⟩ : ∃ z, z = rz := ⟨_, rfl⟩
  subst hw
  obtain ⟨hP, hD⟩ := va_join (wr := [(q0, .inr (4, [.ref x_q7, .int 0, .ref x_q19, .ref x_q30])), (x_q7, .inl (x_k7, 24, .inr (.inr (.inr (.inr (fun _ => none)))))), (x_q19, .inr (1, [.ref x_q8_23, .int u181])), (x_q8_23, .inl (x_k8_23, 10007, .inl f182)), (x_q30, .inr (3, [.ref x_q19, .ref x_q10_38, .ref x_q22_38])), (x_q10_38, .inr (2, [.ref x_q8_14_38, .ref x_q17_14_38, .null, .int 1, .int 0, .int (-1)])), (x_q8_14_38, .inl (x_k8_14_38, 10007, .inl (fun _ => 0))), (x_q17_14_38, .inl (x_k17_14_38, 128, .inl (fun _ => 0))), (x_q22_38, .inl (x_k22_38, 4, .inl (fun _ => 0))), (y_q26, .inl (y_k26, 10300, .inl (fun _ => 0))), (y_q35, .inl (y_k35, 10008, .inl (fun _ => 0))), (y_q43, .inl (y_k43, 24, .inl (fun _ => 0))), (y_q51, .inl (y_k51, 24, .inl (fun _ => 0))), (y_q59, .inl (y_k59, 24, .inl (fun _ => 0))), (y_q67, .inl (y_k67, 24, .inl (fun _ => 0))), (y_q75, .inl (y_k75, 24, .inl (fun _ => 0))), (y_q83, .inl (y_k83, 24, .inl (fun _ => 0))), (y_q92, .inl (y_k92, 10300, .inl (fun _ => 0)))]) (w1 := [(q8, .inr (5, [.int u185, .int u186, .int u187, .ref y_q8, .ref y_q17, .int u188, .ref y_q26, .int u189, .ref y_q35, .int 0, .ref y_q43, .ref y_q51, .ref y_q59, .ref y_q67, .ref y_q75, .ref y_q83, .ref y_q92, .ref y_q100])), (y_q8, .inl (y_k8, 10008, .inl f190)), (y_q17, .inl (y_k17, 10008, .inl f191)), (y_q100, .inl (y_k100, 64, .inl f192))]) hP hD [9, 10, 11, 21] [0, 1, 2, 3, 4, 5, 6, 7, 8, 12, 13, 14, 15, 16, 17, 18, 19, 20] rfl rfl (by decide) (by decide) hk1 hFc hP1 hD1
  generalize H1 = H at hP hS ⊢
  have hP := hP.sub (ws' := [(q0, .inr (4, [.ref x_q7, .int 0, .ref x_q19, .ref x_q30])), (x_q7, .inl (x_k7, 24, .inr (.inr (.inr (.inr (fun _ => none)))))), (x_q19, .inr (1, [.ref x_q8_23, .int u181])), (x_q8_23, .inl (x_k8_23, 10007, .inl f182)), (x_q30, .inr (3, [.ref x_q19, .ref x_q10_38, .ref x_q22_38])), (x_q10_38, .inr (2, [.ref x_q8_14_38, .ref x_q17_14_38, .null, .int 1, .int 0, .int (-1)])), (x_q8_14_38, .inl (x_k8_14_38, 10007, .inl (fun _ => 0))), (x_q17_14_38, .inl (x_k17_14_38, 128, .inl (fun _ => 0))), (x_q22_38, .inl (x_k22_38, 4, .inl (fun _ => 0))), (q8, .inr (5, [.int u185, .int u186, .int u187, .ref y_q8, .ref y_q17, .int u188, .ref y_q26, .int u189, .ref y_q35, .int 0, .ref y_q43, .ref y_q51, .ref y_q59, .ref y_q67, .ref y_q75, .ref y_q83, .ref y_q92, .ref y_q100])), (y_q8, .inl (y_k8, 10008, .inl f190)), (y_q17, .inl (y_k17, 10008, .inl f191)), (y_q26, .inl (y_k26, 10300, .inl (fun _ => 0))), (y_q35, .inl (y_k35, 10008, .inl (fun _ => 0))), (y_q43, .inl (y_k43, 24, .inl (fun _ => 0))), (y_q51, .inl (y_k51, 24, .inl (fun _ => 0))), (y_q59, .inl (y_k59, 24, .inl (fun _ => 0))), (y_q67, .inl (y_k67, 24, .inl (fun _ => 0))), (y_q75, .inl (y_k75, 24, .inl (fun _ => 0))), (y_q83, .inl (y_k83, 24, .inl (fun _ => 0))), (y_q92, .inl (y_k92, 10300, .inl (fun _ => 0))), (y_q100, .inl (y_k100, 64, .inl f192))]) [0, 1, 2, 3, 4, 5, 6, 7, 8, 18, 19, 20, 9, 10, 11, 12, 13, 14, 15, 16, 17, 21] rfl
  have hD := hD.sub (ws' := [(q0, .inr (4, [.ref x_q7, .int 0, .ref x_q19, .ref x_q30])), (x_q7, .inl (x_k7, 24, .inr (.inr (.inr (.inr (fun _ => none)))))), (x_q19, .inr (1, [.ref x_q8_23, .int u181])), (x_q8_23, .inl (x_k8_23, 10007, .inl f182)), (x_q30, .inr (3, [.ref x_q19, .ref x_q10_38, .ref x_q22_38])), (x_q10_38, .inr (2, [.ref x_q8_14_38, .ref x_q17_14_38, .null, .int 1, .int 0, .int (-1)])), (x_q8_14_38, .inl (x_k8_14_38, 10007, .inl (fun _ => 0))), (x_q17_14_38, .inl (x_k17_14_38, 128, .inl (fun _ => 0))), (x_q22_38, .inl (x_k22_38, 4, .inl (fun _ => 0))), (q8, .inr (5, [.int u185, .int u186, .int u187, .ref y_q8, .ref y_q17, .int u188, .ref y_q26, .int u189, .ref y_q35, .int 0, .ref y_q43, .ref y_q51, .ref y_q59, .ref y_q67, .ref y_q75, .ref y_q83, .ref y_q92, .ref y_q100])), (y_q8, .inl (y_k8, 10008, .inl f190)), (y_q17, .inl (y_k17, 10008, .inl f191)), (y_q26, .inl (y_k26, 10300, .inl (fun _ => 0))), (y_q35, .inl (y_k35, 10008, .inl (fun _ => 0))), (y_q43, .inl (y_k43, 24, .inl (fun _ => 0))), (y_q51, .inl (y_k51, 24, .inl (fun _ => 0))), (y_q59, .inl (y_k59, 24, .inl (fun _ => 0))), (y_q67, .inl (y_k67, 24, .inl (fun _ => 0))), (y_q75, .inl (y_k75, 24, .inl (fun _ => 0))), (y_q83, .inl (y_k83, 24, .inl (fun _ => 0))), (y_q92, .inl (y_k92, 10300, .inl (fun _ => 0))), (y_q100, .inl (y_k100, 64, .inl f192))]) [0, 1, 2, 3, 4, 5, 6, 7, 8, 18, 19, 20, 9, 10, 11, 12, 13, 14, 15, 16, 17, 21] (by decide) rfl
  refine lv_icmp_eq (tgt := 1739) hx hb dL_law_1708 (by decide) (fun c194 => ?_) (fun c194 => ?_)
  · exact law1_end hL C0 hAe (by decide +kernel) (by decide +kernel) hS ls (lv_sub hl [0, 3] rfl)
  · exact absurd (l1_eq_kinds N hN1 hr180 hr184) c194
set_option maxHeartbeats 4000000 in
set_option maxRecDepth 100000 in
theorem law1_c38 {p : Program} {l : Launch} {e : Env} {s : State} {m : MethodId} {below : List Frame} {meth : Method} {c : Code} {b L : Nat} {xs : Nat → Int32} (hL : L ≤ 7) (hL7 : L = 7) (C0 : lw_At p s m meth c b L xs) (N : Nat) (hN1 : 20000 ≤ N) (dC : Nat → ClassId) (dI : Nat → Nat → Nat) (q0 x_q7 x_q19 x_q8_23 x_q30 x_q10_38 x_q8_14_38 x_q17_14_38 x_q22_38 q8 y_q8 y_q17 y_q26 y_q35 y_q43 y_q51 y_q59 y_q67 y_q75 y_q83 y_q92 y_q100 : Nat) (x_k7 x_k8_23 x_k8_14_38 x_k17_14_38 x_k22_38 y_k8 y_k17 y_k26 y_k35 y_k43 y_k51 y_k59 y_k67 y_k75 y_k83 y_k92 y_k100 : ClassId) {A : Nat → Prop} (hAe : A = fun q => s.heap.size ≤ q) (H : Heap) (locs : List Loc) (ls : Array Slot) (hN : nw_all s) (hK : va_K (dC, dI) vwCl [(x_k7, .object "PointRings$Curve"), (x_k8_23, .int), (x_k8_14_38, .int), (x_k17_14_38, .int), (x_k22_38, .int), (y_k8, .int), (y_k17, .int), (y_k26, .int), (y_k35, .int), (y_k43, .int), (y_k51, .int), (y_k59, .int), (y_k67, .int), (y_k75, .int), (y_k83, .int), (y_k92, .boolean), (y_k100, .boolean)] s) (hP : va_P (dC, dI) vwCl [(q0, .inr (4, [.ref x_q7, .int 0, .ref x_q19, .ref x_q30])), (x_q7, .inl (x_k7, 24, .inr (.inr (.inr (.inr (fun _ => none)))))), (x_q19, .inr (1, [.ref x_q8_23, .int 0])), (x_q8_23, .inl (x_k8_23, 10007, .inl (fun _ => 0))), (x_q30, .inr (3, [.ref x_q19, .ref x_q10_38, .ref x_q22_38])), (x_q10_38, .inr (2, [.ref x_q8_14_38, .ref x_q17_14_38, .null, .int 1, .int 0, .int (-1)])), (x_q8_14_38, .inl (x_k8_14_38, 10007, .inl (fun _ => 0))), (x_q17_14_38, .inl (x_k17_14_38, 128, .inl (fun _ => 0))), (x_q22_38, .inl (x_k22_38, 4, .inl (fun _ => 0))), (q8, .inr (5, [.int 0, .int 0, .int 0, .ref y_q8, .ref y_q17, .int 0, .ref y_q26, .int 0, .ref y_q35, .int 0, .ref y_q43, .ref y_q51, .ref y_q59, .ref y_q67, .ref y_q75, .ref y_q83, .ref y_q92, .ref y_q100])), (y_q8, .inl (y_k8, 10008, .inl (fun _ => 0))), (y_q17, .inl (y_k17, 10008, .inl (fun _ => 0))), (y_q26, .inl (y_k26, 10300, .inl (fun _ => 0))), (y_q35, .inl (y_k35, 10008, .inl (fun _ => 0))), (y_q43, .inl (y_k43, 24, .inl (fun _ => 0))), (y_q51, .inl (y_k51, 24, .inl (fun _ => 0))), (y_q59, .inl (y_k59, 24, .inl (fun _ => 0))), (y_q67, .inl (y_k67, 24, .inl (fun _ => 0))), (y_q75, .inl (y_k75, 24, .inl (fun _ => 0))), (y_q83, .inl (y_k83, 24, .inl (fun _ => 0))), (y_q92, .inl (y_k92, 10300, .inl (fun _ => 0))), (y_q100, .inl (y_k100, 64, .inl (fun _ => 0)))] H) (hD : va_D A [(q0, .inr (4, [.ref x_q7, .int 0, .ref x_q19, .ref x_q30])), (x_q7, .inl (x_k7, 24, .inr (.inr (.inr (.inr (fun _ => none)))))), (x_q19, .inr (1, [.ref x_q8_23, .int 0])), (x_q8_23, .inl (x_k8_23, 10007, .inl (fun _ => 0))), (x_q30, .inr (3, [.ref x_q19, .ref x_q10_38, .ref x_q22_38])), (x_q10_38, .inr (2, [.ref x_q8_14_38, .ref x_q17_14_38, .null, .int 1, .int 0, .int (-1)])), (x_q8_14_38, .inl (x_k8_14_38, 10007, .inl (fun _ => 0))), (x_q17_14_38, .inl (x_k17_14_38, 128, .inl (fun _ => 0))), (x_q22_38, .inl (x_k22_38, 4, .inl (fun _ => 0))), (q8, .inr (5, [.int 0, .int 0, .int 0, .ref y_q8, .ref y_q17, .int 0, .ref y_q26, .int 0, .ref y_q35, .int 0, .ref y_q43, .ref y_q51, .ref y_q59, .ref y_q67, .ref y_q75, .ref y_q83, .ref y_q92, .ref y_q100])), (y_q8, .inl (y_k8, 10008, .inl (fun _ => 0))), (y_q17, .inl (y_k17, 10008, .inl (fun _ => 0))), (y_q26, .inl (y_k26, 10300, .inl (fun _ => 0))), (y_q35, .inl (y_k35, 10008, .inl (fun _ => 0))), (y_q43, .inl (y_k43, 24, .inl (fun _ => 0))), (y_q51, .inl (y_k51, 24, .inl (fun _ => 0))), (y_q59, .inl (y_k59, 24, .inl (fun _ => 0))), (y_q67, .inl (y_k67, 24, .inl (fun _ => 0))), (y_q75, .inl (y_k75, 24, .inl (fun _ => 0))), (y_q83, .inl (y_k83, 24, .inl (fun _ => 0))), (y_q92, .inl (y_k92, 10300, .inl (fun _ => 0))), (y_q100, .inl (y_k100, 64, .inl (fun _ => 0)))]) (hS : va_S A s.heap H locs) (hl : lv_has ls 4 [(0, .ref b), (1, .ref q0), (2, .ref q8), (3, .int 0)]) : W p l e room_1 s m #[Value.ref b] below meth c H locs 22 71035 (lw_Z below #[Value.ref b] s) (F0 m 1713 ls []) := by
  obtain ⟨hx, hb, hr, hml, hown, hts, hX, hbl, hlocks, hgv⟩ := id C0
  have hbA : ¬ A b := by rw [hAe]; exact Nat.not_le.mpr hbl
  have hA0 : ∀ q : Nat, s.heap.size ≤ q → A q := fun q h => by rw [hAe]; exact h
  refine lv_aload_n hx hb dL_law_1713 rfl (lv_at hl 1 rfl) ?_
  obtain ⟨r195, hr195⟩ : ∃ z, mX5_curves N 0 = some z := l1_t_X5_curves N hN1
  have hPc := hP.sub (ws' := [(q0, .inr (4, [.ref x_q7, .int 0, .ref x_q19, .ref x_q30]))]) [0] rfl
  have hKc := hK.sub (tys' := []) [] rfl
  refine vp_callSi (W.runV (As := []) (rest := []) ⟨hx, hb, hml, hown, hts⟩ (ctX5_curves l N dC dI  q0 x_q7 x_q19 x_q30 0 r195 hr195) (cwV 0 hts gL1_X5_curves rfl rfl rfl (by decide +kernel) ⟨Nat.le_of_ble_eq_true rfl, Nat.le_of_ble_eq_true rfl⟩) ⟨fun a U g mk q => by obtain ⟨q0, qP, qK, qN⟩ := q; exact ⟨q0, qP, va_K.moved (u := U) (U := U.calling g mk a) (Vm.Alike.refl U.vm) qK, nw_same (u := U) (U := U.calling g mk a) rfl qN⟩, va_recv hKc hPc (ci := 4) (q0 := 0) rfl rfl, fun U hU hW => ⟨rfl, by rw [hU]; exact hPc, va_K.moved hW.alike hKc, nw_warm hW hN⟩⟩ rfl rfl hl.1 rfl (lv_room (Nat.le_of_ble_eq_true rfl)) dL_law_1714 ⟨by decide +kernel, by decide +kernel⟩) (fun q9 eq9 => ?_)
  subst q9
  refine lv_aload_n hx hb dL_law_1717 rfl (lv_at hl 2 rfl) ?_
  obtain ⟨r196, hr196⟩ : ∃ z, mX6_curves N 0 = some z := l1_t_X6_curves N hN1
  have hPc := hP.sub (ws' := [(q8, .inr (5, [.int 0, .int 0, .int 0, .ref y_q8, .ref y_q17, .int 0, .ref y_q26, .int 0, .ref y_q35, .int 0, .ref y_q43, .ref y_q51, .ref y_q59, .ref y_q67, .ref y_q75, .ref y_q83, .ref y_q92, .ref y_q100]))]) [9] rfl
  have hKc := hK.sub (tys' := []) [] rfl
  refine vp_callSi (W.runV (As := []) (rest := [.int r195]) ⟨hx, hb, hml, hown, hts⟩ (ctX6_curves l N dC dI  q8 y_q8 y_q17 y_q26 y_q35 y_q43 y_q51 y_q59 y_q67 y_q75 y_q83 y_q92 y_q100 0 0 0 0 0 0 r196 hr196) (cwV 0 hts gL1_X6_curves rfl rfl rfl (by decide +kernel) ⟨Nat.le_of_ble_eq_true rfl, Nat.le_of_ble_eq_true rfl⟩) ⟨fun a U g mk q => by obtain ⟨q0, qP, qK, qN⟩ := q; exact ⟨q0, qP, va_K.moved (u := U) (U := U.calling g mk a) (Vm.Alike.refl U.vm) qK, nw_same (u := U) (U := U.calling g mk a) rfl qN⟩, va_recv hKc hPc (ci := 5) (q0 := 0) rfl rfl, fun U hU hW => ⟨rfl, by rw [hU]; exact hPc, va_K.moved hW.alike hKc, nw_warm hW hN⟩⟩ rfl rfl hl.1 rfl (lv_room (Nat.le_of_ble_eq_true rfl)) dL_law_1718 ⟨by decide +kernel, by decide +kernel⟩) (fun q9 eq9 => ?_)
  subst q9
  refine lv_icmp_eq (tgt := 1739) hx hb dL_law_1721 (by decide) (fun c197 => ?_) (fun c197 => ?_)
  · exact law1_end hL C0 hAe (by decide +kernel) (by decide +kernel) hS ls (lv_sub hl [0, 3] rfl)
  · exact absurd (l1_eq_curves N hN1 hr195 hr196) c197
set_option maxHeartbeats 4000000 in
set_option maxRecDepth 100000 in
theorem law1_c39 {p : Program} {l : Launch} {e : Env} {s : State} {m : MethodId} {below : List Frame} {meth : Method} {c : Code} {b L : Nat} {xs : Nat → Int32} (hL : L ≤ 7) (hL7 : L = 7) (C0 : lw_At p s m meth c b L xs) (N : Nat) (hN1 : 20000 ≤ N) (dC : Nat → ClassId) (dI : Nat → Nat → Nat) (q0 x_q7 x_q19 x_q8_23 x_q30 x_q10_38 x_q8_14_38 x_q17_14_38 x_q22_38 q8 y_q8 y_q17 y_q26 y_q35 y_q43 y_q51 y_q59 y_q67 y_q75 y_q83 y_q92 y_q100 : Nat) (x_k7 x_k8_23 x_k8_14_38 x_k17_14_38 x_k22_38 y_k8 y_k17 y_k26 y_k35 y_k43 y_k51 y_k59 y_k67 y_k75 y_k83 y_k92 y_k100 : ClassId) {A : Nat → Prop} (hAe : A = fun q => s.heap.size ≤ q) (H : Heap) (locs : List Loc) (ls : Array Slot) (hN : nw_all s) (hK : va_K (dC, dI) vwCl [(x_k7, .object "PointRings$Curve"), (x_k8_23, .int), (x_k8_14_38, .int), (x_k17_14_38, .int), (x_k22_38, .int), (y_k8, .int), (y_k17, .int), (y_k26, .int), (y_k35, .int), (y_k43, .int), (y_k51, .int), (y_k59, .int), (y_k67, .int), (y_k75, .int), (y_k83, .int), (y_k92, .boolean), (y_k100, .boolean)] s) (hP : va_P (dC, dI) vwCl [(q0, .inr (4, [.ref x_q7, .int 0, .ref x_q19, .ref x_q30])), (x_q7, .inl (x_k7, 24, .inr (.inr (.inr (.inr (fun _ => none)))))), (x_q19, .inr (1, [.ref x_q8_23, .int 0])), (x_q8_23, .inl (x_k8_23, 10007, .inl (fun _ => 0))), (x_q30, .inr (3, [.ref x_q19, .ref x_q10_38, .ref x_q22_38])), (x_q10_38, .inr (2, [.ref x_q8_14_38, .ref x_q17_14_38, .null, .int 1, .int 0, .int (-1)])), (x_q8_14_38, .inl (x_k8_14_38, 10007, .inl (fun _ => 0))), (x_q17_14_38, .inl (x_k17_14_38, 128, .inl (fun _ => 0))), (x_q22_38, .inl (x_k22_38, 4, .inl (fun _ => 0))), (q8, .inr (5, [.int 0, .int 0, .int 0, .ref y_q8, .ref y_q17, .int 0, .ref y_q26, .int 0, .ref y_q35, .int 0, .ref y_q43, .ref y_q51, .ref y_q59, .ref y_q67, .ref y_q75, .ref y_q83, .ref y_q92, .ref y_q100])), (y_q8, .inl (y_k8, 10008, .inl (fun _ => 0))), (y_q17, .inl (y_k17, 10008, .inl (fun _ => 0))), (y_q26, .inl (y_k26, 10300, .inl (fun _ => 0))), (y_q35, .inl (y_k35, 10008, .inl (fun _ => 0))), (y_q43, .inl (y_k43, 24, .inl (fun _ => 0))), (y_q51, .inl (y_k51, 24, .inl (fun _ => 0))), (y_q59, .inl (y_k59, 24, .inl (fun _ => 0))), (y_q67, .inl (y_k67, 24, .inl (fun _ => 0))), (y_q75, .inl (y_k75, 24, .inl (fun _ => 0))), (y_q83, .inl (y_k83, 24, .inl (fun _ => 0))), (y_q92, .inl (y_k92, 10300, .inl (fun _ => 0))), (y_q100, .inl (y_k100, 64, .inl (fun _ => 0)))] H) (hD : va_D A [(q0, .inr (4, [.ref x_q7, .int 0, .ref x_q19, .ref x_q30])), (x_q7, .inl (x_k7, 24, .inr (.inr (.inr (.inr (fun _ => none)))))), (x_q19, .inr (1, [.ref x_q8_23, .int 0])), (x_q8_23, .inl (x_k8_23, 10007, .inl (fun _ => 0))), (x_q30, .inr (3, [.ref x_q19, .ref x_q10_38, .ref x_q22_38])), (x_q10_38, .inr (2, [.ref x_q8_14_38, .ref x_q17_14_38, .null, .int 1, .int 0, .int (-1)])), (x_q8_14_38, .inl (x_k8_14_38, 10007, .inl (fun _ => 0))), (x_q17_14_38, .inl (x_k17_14_38, 128, .inl (fun _ => 0))), (x_q22_38, .inl (x_k22_38, 4, .inl (fun _ => 0))), (q8, .inr (5, [.int 0, .int 0, .int 0, .ref y_q8, .ref y_q17, .int 0, .ref y_q26, .int 0, .ref y_q35, .int 0, .ref y_q43, .ref y_q51, .ref y_q59, .ref y_q67, .ref y_q75, .ref y_q83, .ref y_q92, .ref y_q100])), (y_q8, .inl (y_k8, 10008, .inl (fun _ => 0))), (y_q17, .inl (y_k17, 10008, .inl (fun _ => 0))), (y_q26, .inl (y_k26, 10300, .inl (fun _ => 0))), (y_q35, .inl (y_k35, 10008, .inl (fun _ => 0))), (y_q43, .inl (y_k43, 24, .inl (fun _ => 0))), (y_q51, .inl (y_k51, 24, .inl (fun _ => 0))), (y_q59, .inl (y_k59, 24, .inl (fun _ => 0))), (y_q67, .inl (y_k67, 24, .inl (fun _ => 0))), (y_q75, .inl (y_k75, 24, .inl (fun _ => 0))), (y_q83, .inl (y_k83, 24, .inl (fun _ => 0))), (y_q92, .inl (y_k92, 10300, .inl (fun _ => 0))), (y_q100, .inl (y_k100, 64, .inl (fun _ => 0)))]) (hS : va_S A s.heap H locs) (hl : lv_has ls 4 [(0, .ref b), (1, .ref q0), (2, .ref q8), (3, .int 0)]) : W p l e room_1 s m #[Value.ref b] below meth c H locs 22 71035 (lw_Z below #[Value.ref b] s) (F0 m 1726 ls []) := by
  obtain ⟨hx, hb, hr, hml, hown, hts, hX, hbl, hlocks, hgv⟩ := id C0
  have hbA : ¬ A b := by rw [hAe]; exact Nat.not_le.mpr hbl
  have hA0 : ∀ q : Nat, s.heap.size ≤ q → A q := fun q h => by rw [hAe]; exact h
  refine lv_aload_n hx hb dL_law_1726 rfl (lv_at hl 1 rfl) ?_
  have hPc := hP.sub (ws' := [(q0, .inr (4, [.ref x_q7, .int 0, .ref x_q19, .ref x_q30]))]) [0] rfl
  have hKc := hK.sub (tys' := []) [] rfl
  refine vp_callSi (W.runV (As := []) (rest := []) ⟨hx, hb, hml, hown, hts⟩ (ctX5_drop_e l N dC dI  q0 x_q7 x_q19 x_q30 0 (-1) rfl (by decide)) (cwV 0 hts gL1_X5_drop_e rfl rfl rfl (by decide +kernel) ⟨Nat.le_of_ble_eq_true rfl, Nat.le_of_ble_eq_true rfl⟩) ⟨fun a U g mk q => by obtain ⟨q0, qP, qK, qN⟩ := q; exact ⟨q0, qP, va_K.moved (u := U) (U := U.calling g mk a) (Vm.Alike.refl U.vm) qK, nw_same (u := U) (U := U.calling g mk a) rfl qN⟩, va_recv hKc hPc (ci := 4) (q0 := 0) rfl rfl, fun U hU hW => ⟨rfl, by rw [hU]; exact hPc, va_K.moved hW.alike hKc, nw_warm hW hN⟩⟩ rfl rfl hl.1 rfl (lv_room (Nat.le_of_ble_eq_true rfl)) dL_law_1727 ⟨by decide +kernel, by decide +kernel⟩) (fun q9 eq9 => ?_)
  subst q9
  refine lv_aload_n hx hb dL_law_1730 rfl (lv_at hl 2 rfl) ?_
  obtain ⟨r199, hr199⟩ : ∃ z, mX6_drop N 0 = some z := l1_t_X6_drop N hN1
  have hPc := hP.sub (ws' := [(q8, .inr (5, [.int 0, .int 0, .int 0, .ref y_q8, .ref y_q17, .int 0, .ref y_q26, .int 0, .ref y_q35, .int 0, .ref y_q43, .ref y_q51, .ref y_q59, .ref y_q67, .ref y_q75, .ref y_q83, .ref y_q92, .ref y_q100]))]) [9] rfl
  have hDc := hD.sub (ws' := [(q8, .inr (5, [.int 0, .int 0, .int 0, .ref y_q8, .ref y_q17, .int 0, .ref y_q26, .int 0, .ref y_q35, .int 0, .ref y_q43, .ref y_q51, .ref y_q59, .ref y_q67, .ref y_q75, .ref y_q83, .ref y_q92, .ref y_q100]))]) [9] (by decide) rfl
  have hKc := hK.sub (tys' := []) [] rfl
  have hFc := va_free (wc := [(q8, .inr (5, [.int 0, .int 0, .int 0, .ref y_q8, .ref y_q17, .int 0, .ref y_q26, .int 0, .ref y_q35, .int 0, .ref y_q43, .ref y_q51, .ref y_q59, .ref y_q67, .ref y_q75, .ref y_q83, .ref y_q92, .ref y_q100]))]) hD hS hA0 [9] rfl
  refine va_calli (va_runV (As := []) (rest := [.int (-1)]) ⟨hx, hb, hml, hown, hts⟩ (ctX6_drop l N dC dI _ q8 y_q8 y_q17 y_q26 y_q35 y_q43 y_q51 y_q59 y_q67 y_q75 y_q83 y_q92 y_q100 0 0 0 0 0 0 r199 hr199) (cwV 0 hts gL1_X6_drop rfl rfl rfl (by decide +kernel) ⟨Nat.le_of_ble_eq_true rfl, Nat.le_of_ble_eq_true rfl⟩) ⟨fun a U g mk q => by obtain ⟨q0, q1, qP, qK, qN, qD⟩ := q; exact ⟨q0, q1, qP, va_K.moved (u := U) (U := U.calling g mk a) (Vm.Alike.refl U.vm) qK, nw_same (u := U) (U := U.calling g mk a) rfl qN, qD⟩, va_recv hKc hPc (ci := 5) (q0 := 0) rfl rfl, fun U hU hW => ⟨rfl, by rw [hU], by rw [hU]; exact hPc, va_K.moved hW.alike hKc, nw_warm hW hN, hDc.weaken (fun _ _ _ _ => trivial)⟩⟩ rfl rfl hl.1 rfl (lv_room (Nat.le_of_ble_eq_true rfl)) dL_law_1731 ⟨by decide +kernel, by decide +kernel⟩) hS (fun q _ h => hFc q h) hFc (fun rz u t H1 locs ht hvm hw hB1 hz1 hk1 hS => ?_)
  obtain ⟨u200, rfl⟩ : ∃ z, z = u := ⟨_, rfl⟩
  obtain ⟨hP1, hK1, hD1⟩ := hB1
  rw [ht] at hP1
  have hK1 := va_K.moved hvm.symm hK1
  obtain ⟨r201, rfl⟩ : ∃ z, z = rz := ⟨_, rfl⟩
  subst hw
  obtain ⟨hP, hD⟩ := va_join (wr := [(q0, .inr (4, [.ref x_q7, .int 0, .ref x_q19, .ref x_q30])), (x_q7, .inl (x_k7, 24, .inr (.inr (.inr (.inr (fun _ => none)))))), (x_q19, .inr (1, [.ref x_q8_23, .int 0])), (x_q8_23, .inl (x_k8_23, 10007, .inl (fun _ => 0))), (x_q30, .inr (3, [.ref x_q19, .ref x_q10_38, .ref x_q22_38])), (x_q10_38, .inr (2, [.ref x_q8_14_38, .ref x_q17_14_38, .null, .int 1, .int 0, .int (-1)])), (x_q8_14_38, .inl (x_k8_14_38, 10007, .inl (fun _ => 0))), (x_q17_14_38, .inl (x_k17_14_38, 128, .inl (fun _ => 0))), (x_q22_38, .inl (x_k22_38, 4, .inl (fun _ => 0))), (y_q8, .inl (y_k8, 10008, .inl (fun _ => 0))), (y_q17, .inl (y_k17, 10008, .inl (fun _ => 0))), (y_q26, .inl (y_k26, 10300, .inl (fun _ => 0))), (y_q35, .inl (y_k35, 10008, .inl (fun _ => 0))), (y_q43, .inl (y_k43, 24, .inl (fun _ => 0))), (y_q51, .inl (y_k51, 24, .inl (fun _ => 0))), (y_q59, .inl (y_k59, 24, .inl (fun _ => 0))), (y_q67, .inl (y_k67, 24, .inl (fun _ => 0))), (y_q75, .inl (y_k75, 24, .inl (fun _ => 0))), (y_q83, .inl (y_k83, 24, .inl (fun _ => 0))), (y_q92, .inl (y_k92, 10300, .inl (fun _ => 0))), (y_q100, .inl (y_k100, 64, .inl (fun _ => 0)))]) (w1 := [(q8, .inr (5, [.int 0, .int 0, .int 0, .ref y_q8, .ref y_q17, .int 0, .ref y_q26, .int 0, .ref y_q35, .int u200, .ref y_q43, .ref y_q51, .ref y_q59, .ref y_q67, .ref y_q75, .ref y_q83, .ref y_q92, .ref y_q100]))]) hP hD [9] [0, 1, 2, 3, 4, 5, 6, 7, 8, 10, 11, 12, 13, 14, 15, 16, 17, 18, 19, 20, 21] rfl rfl (by decide) (by decide) hk1 hFc hP1 hD1
  generalize H1 = H at hP hS ⊢
  have hP := hP.sub (ws' := [(q0, .inr (4, [.ref x_q7, .int 0, .ref x_q19, .ref x_q30])), (x_q7, .inl (x_k7, 24, .inr (.inr (.inr (.inr (fun _ => none)))))), (x_q19, .inr (1, [.ref x_q8_23, .int 0])), (x_q8_23, .inl (x_k8_23, 10007, .inl (fun _ => 0))), (x_q30, .inr (3, [.ref x_q19, .ref x_q10_38, .ref x_q22_38])), (x_q10_38, .inr (2, [.ref x_q8_14_38, .ref x_q17_14_38, .null, .int 1, .int 0, .int (-1)])), (x_q8_14_38, .inl (x_k8_14_38, 10007, .inl (fun _ => 0))), (x_q17_14_38, .inl (x_k17_14_38, 128, .inl (fun _ => 0))), (x_q22_38, .inl (x_k22_38, 4, .inl (fun _ => 0))), (q8, .inr (5, [.int 0, .int 0, .int 0, .ref y_q8, .ref y_q17, .int 0, .ref y_q26, .int 0, .ref y_q35, .int u200, .ref y_q43, .ref y_q51, .ref y_q59, .ref y_q67, .ref y_q75, .ref y_q83, .ref y_q92, .ref y_q100])), (y_q8, .inl (y_k8, 10008, .inl (fun _ => 0))), (y_q17, .inl (y_k17, 10008, .inl (fun _ => 0))), (y_q26, .inl (y_k26, 10300, .inl (fun _ => 0))), (y_q35, .inl (y_k35, 10008, .inl (fun _ => 0))), (y_q43, .inl (y_k43, 24, .inl (fun _ => 0))), (y_q51, .inl (y_k51, 24, .inl (fun _ => 0))), (y_q59, .inl (y_k59, 24, .inl (fun _ => 0))), (y_q67, .inl (y_k67, 24, .inl (fun _ => 0))), (y_q75, .inl (y_k75, 24, .inl (fun _ => 0))), (y_q83, .inl (y_k83, 24, .inl (fun _ => 0))), (y_q92, .inl (y_k92, 10300, .inl (fun _ => 0))), (y_q100, .inl (y_k100, 64, .inl (fun _ => 0)))]) [0, 1, 2, 3, 4, 5, 6, 7, 8, 21, 9, 10, 11, 12, 13, 14, 15, 16, 17, 18, 19, 20] rfl
  have hD := hD.sub (ws' := [(q0, .inr (4, [.ref x_q7, .int 0, .ref x_q19, .ref x_q30])), (x_q7, .inl (x_k7, 24, .inr (.inr (.inr (.inr (fun _ => none)))))), (x_q19, .inr (1, [.ref x_q8_23, .int 0])), (x_q8_23, .inl (x_k8_23, 10007, .inl (fun _ => 0))), (x_q30, .inr (3, [.ref x_q19, .ref x_q10_38, .ref x_q22_38])), (x_q10_38, .inr (2, [.ref x_q8_14_38, .ref x_q17_14_38, .null, .int 1, .int 0, .int (-1)])), (x_q8_14_38, .inl (x_k8_14_38, 10007, .inl (fun _ => 0))), (x_q17_14_38, .inl (x_k17_14_38, 128, .inl (fun _ => 0))), (x_q22_38, .inl (x_k22_38, 4, .inl (fun _ => 0))), (q8, .inr (5, [.int 0, .int 0, .int 0, .ref y_q8, .ref y_q17, .int 0, .ref y_q26, .int 0, .ref y_q35, .int u200, .ref y_q43, .ref y_q51, .ref y_q59, .ref y_q67, .ref y_q75, .ref y_q83, .ref y_q92, .ref y_q100])), (y_q8, .inl (y_k8, 10008, .inl (fun _ => 0))), (y_q17, .inl (y_k17, 10008, .inl (fun _ => 0))), (y_q26, .inl (y_k26, 10300, .inl (fun _ => 0))), (y_q35, .inl (y_k35, 10008, .inl (fun _ => 0))), (y_q43, .inl (y_k43, 24, .inl (fun _ => 0))), (y_q51, .inl (y_k51, 24, .inl (fun _ => 0))), (y_q59, .inl (y_k59, 24, .inl (fun _ => 0))), (y_q67, .inl (y_k67, 24, .inl (fun _ => 0))), (y_q75, .inl (y_k75, 24, .inl (fun _ => 0))), (y_q83, .inl (y_k83, 24, .inl (fun _ => 0))), (y_q92, .inl (y_k92, 10300, .inl (fun _ => 0))), (y_q100, .inl (y_k100, 64, .inl (fun _ => 0)))]) [0, 1, 2, 3, 4, 5, 6, 7, 8, 21, 9, 10, 11, 12, 13, 14, 15, 16, 17, 18, 19, 20] (by decide) rfl
  refine lv_icmp_eq (tgt := 1739) hx hb dL_law_1734 (by decide) (fun c202 => ?_) (fun c202 => ?_)
  · exact law1_end hL C0 hAe (by decide +kernel) (by decide +kernel) hS ls (lv_sub hl [0, 3] rfl)
  · exact absurd (l1_eq_drop N hN1 rfl hr199) c202
