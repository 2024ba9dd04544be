def mX6_split (N : Nat) (t_p : Int32) (t_a : Int32) (t_b : Int32) : Option (Int32) := (mX6_mul N t_p t_a t_a).bind (fun r1 => (mX6_mul N t_p r1 t_a).bind (fun r2 => (mX6_mul N t_p t_b t_b).bind (fun r3 => (mX6_mod N t_p ((4 * r2.toInt64) + (27 * r3.toInt64))).bind (fun r4 => some r4))))
abbrev rmX6_split : Room := { frames := 1, cells := 0, slots := 0, locals := 23 }
set_option maxHeartbeats 4000000 in
set_option maxRecDepth 100000 in
theorem ctX6_split (l : Launch) (N : Nat) (dC : Nat → ClassId) (dI : Nat → Nat → Nat) (h0 : Nat) (h0_inverses : Nat) (h0_roots : Nat) (h0_points : Nat) (h0_ahead : Nat) (h0_ps : Nat) (h0_as : Nat) (h0_bs : Nat) (h0_from : Nat) (h0_kernelPoint : Nat) (h0_kernelOrder : Nat) (h0_marked : Nat) (h0_seen : Nat) (t_p : Int32) (t_a : Int32) (t_b : Int32) (t_rooted : Int32) (t_pointMany : Int32) (t_curves : Int32) (rr : Int32) (h : mX6_split N t_p t_a t_b = some rr) : Met l yX6_split wsX6_split rmX6_split (va_Pc [.ref h0] (fun U => va_P (dC, dI) vwCl [(h0, .inr (5, [.int t_p, .int t_a, .int t_b, .ref h0_inverses, .ref h0_roots, .int t_rooted, .ref h0_points, .int t_pointMany, .ref h0_ahead, .int t_curves, .ref h0_ps, .ref h0_as, .ref h0_bs, .ref h0_from, .ref h0_kernelPoint, .ref h0_kernelOrder, .ref h0_marked, .ref h0_seen]))] U.heap ∧ va_K (dC, dI) vwCl [] U ∧ nw_all U)) (vp_Si (fun r => r = rr)) 0 0 (fun _ => False) := by
  refine Met.ofW (cc := cX6_split) (maxL := 1) (ret := (some .int)) (by decide) rfl ?_
  intro p e s m args below meth c s₁ B hml hv
  obtain ⟨rfl, hP, hK, hN⟩ := hv
  have hx := B.exec
  have hb := B.bytes
  have hr := B.returns
  have hts := atoms_spec (ws := wsX6_split) B.pre
  have hown : s.vm.findClass RX6 = some m.cls := findClass_of_methodNamed B.named
  have hlocks := B.notSynchronized
  have hl := lv_entry ([.ref h0]) (n := 1) (Nat.le_of_ble_eq_true rfl)
  rw [lg_entry_eq]
  generalize (lg_sl ([.ref h0]) ++ List.replicate (1 - (lg_sl ([.ref h0])).length) Slot.unset).toArray = ls at hl ⊢
  have hl : lv_has ls 1 [(0, .ref h0)] := hl
  dsimp only [mX6_split] at h
  refine lv_aload_n hx hb dX6_split_0 rfl (lv_at hl 0 rfl) ?_
  refine lv_ldc2 (v := 4) hx hb hown (hts (.constantLong RX6 108 4) (by decide +kernel)) dX6_split_1 ?_
  refine lv_aload_n hx hb dX6_split_4 rfl (lv_at hl 0 rfl) ?_
  refine lv_aload_n hx hb dX6_split_5 rfl (lv_at hl 0 rfl) ?_
  refine lv_aload_n hx hb dX6_split_6 rfl (lv_at hl 0 rfl) ?_
  refine va_get (D := (dC, dI)) (ci := 5) (v := .int t_a) (C := RX6) (T := TX6) (N := 18) hx hb hts (by decide +kernel) hown hK hP 0 rfl rfl 1 (by decide) (hts (.fieldLink RX6 61 "PointRingsModel" "a" "I") (by decide +kernel)) (fun _ h9 => h9) rfl dX6_split_7 ?_
  refine lv_aload_n hx hb dX6_split_10 rfl (lv_at hl 0 rfl) ?_
  refine va_get (D := (dC, dI)) (ci := 5) (v := .int t_a) (C := RX6) (T := TX6) (N := 18) hx hb hts (by decide +kernel) hown hK hP 0 rfl rfl 1 (by decide) (hts (.fieldLink RX6 61 "PointRingsModel" "a" "I") (by decide +kernel)) (fun _ h9 => h9) rfl dX6_split_11 ?_
  obtain ⟨r1, hr1, h⟩ := Option.bind_eq_some_iff.mp h
  have hPc := hP.sub (ws' := [(h0, .inr (5, [.int t_p, .int t_a, .int t_b, .ref h0_inverses, .ref h0_roots, .int t_rooted, .ref h0_points, .int t_pointMany, .ref h0_ahead, .int t_curves, .ref h0_ps, .ref h0_as, .ref h0_bs, .ref h0_from, .ref h0_kernelPoint, .ref h0_kernelOrder, .ref h0_marked, .ref h0_seen]))]) [0] rfl
  have hKc := hK.sub (tys' := []) [] rfl
  refine vp_callSi (W.runV (As := [.int t_a, .int t_a]) (rest := [.ref h0, .long 4, .ref h0]) ⟨hx, hb, hml, hown, hts⟩ (ctX6_mul l N dC dI  h0 h0_inverses h0_roots h0_points h0_ahead h0_ps h0_as h0_bs h0_from h0_kernelPoint h0_kernelOrder h0_marked h0_seen t_p t_a t_b t_rooted t_pointMany t_curves t_a t_a r1 hr1) (cwV 2 hts gX6_split_X6_mul rfl rfl rfl (by decide +kernel) ⟨Nat.le_of_ble_eq_true rfl, Nat.le_of_ble_eq_true rfl⟩) ⟨fun a U g mk q => by obtain ⟨q0, qP, qK, qN⟩ := q; exact ⟨q0, qP, va_K.moved (u := U) (U := U.calling g mk a) (Vm.Alike.refl U.vm) qK, nw_same (u := U) (U := U.calling g mk a) rfl qN⟩, va_recv hKc hPc (ci := 5) (q0 := 0) rfl rfl, fun U hU hW => ⟨rfl, by rw [hU]; exact hPc, va_K.moved hW.alike hKc, nw_warm hW hN⟩⟩ rfl rfl hl.1 rfl (lv_room (Nat.le_of_ble_eq_true rfl)) dX6_split_14 ⟨Nat.le_of_ble_eq_true rfl, Nat.le_of_ble_eq_true rfl⟩) (fun q9 eq9 => ?_)
  subst q9
  refine lv_aload_n hx hb dX6_split_17 rfl (lv_at hl 0 rfl) ?_
  refine va_get (D := (dC, dI)) (ci := 5) (v := .int t_a) (C := RX6) (T := TX6) (N := 18) hx hb hts (by decide +kernel) hown hK hP 0 rfl rfl 1 (by decide) (hts (.fieldLink RX6 61 "PointRingsModel" "a" "I") (by decide +kernel)) (fun _ h9 => h9) rfl dX6_split_18 ?_
  obtain ⟨r2, hr2, h⟩ := Option.bind_eq_some_iff.mp h
  have hPc := hP.sub (ws' := [(h0, .inr (5, [.int t_p, .int t_a, .int t_b, .ref h0_inverses, .ref h0_roots, .int t_rooted, .ref h0_points, .int t_pointMany, .ref h0_ahead, .int t_curves, .ref h0_ps, .ref h0_as, .ref h0_bs, .ref h0_from, .ref h0_kernelPoint, .ref h0_kernelOrder, .ref h0_marked, .ref h0_seen]))]) [0] rfl
  have hKc := hK.sub (tys' := []) [] rfl
  refine vp_callSi (W.runV (As := [.int r1, .int t_a]) (rest := [.long 4, .ref h0]) ⟨hx, hb, hml, hown, hts⟩ (ctX6_mul l N dC dI  h0 h0_inverses h0_roots h0_points h0_ahead h0_ps h0_as h0_bs h0_from h0_kernelPoint h0_kernelOrder h0_marked h0_seen t_p t_a t_b t_rooted t_pointMany t_curves r1 t_a r2 hr2) (cwV 2 hts gX6_split_X6_mul rfl rfl rfl (by decide +kernel) ⟨Nat.le_of_ble_eq_true rfl, Nat.le_of_ble_eq_true rfl⟩) ⟨fun a U g mk q => by obtain ⟨q0, qP, qK, qN⟩ := q; exact ⟨q0, qP, va_K.moved (u := U) (U := U.calling g mk a) (Vm.Alike.refl U.vm) qK, nw_same (u := U) (U := U.calling g mk a) rfl qN⟩, va_recv hKc hPc (ci := 5) (q0 := 0) rfl rfl, fun U hU hW => ⟨rfl, by rw [hU]; exact hPc, va_K.moved hW.alike hKc, nw_warm hW hN⟩⟩ rfl rfl hl.1 rfl (lv_room (Nat.le_of_ble_eq_true rfl)) dX6_split_21 ⟨Nat.le_of_ble_eq_true rfl, Nat.le_of_ble_eq_true rfl⟩) (fun q9 eq9 => ?_)
  subst q9
  refine lv_i2l hx hb dX6_split_24 rfl ?_
  refine lv_lmul hx hb dX6_split_25 ?_
  refine lv_ldc2 (v := 27) hx hb hown (hts (.constantLong RX6 110 27) (by decide +kernel)) dX6_split_26 ?_
  refine lv_aload_n hx hb dX6_split_29 rfl (lv_at hl 0 rfl) ?_
  refine lv_aload_n hx hb dX6_split_30 rfl (lv_at hl 0 rfl) ?_
  refine va_get (D := (dC, dI)) (ci := 5) (v := .int t_b) (C := RX6) (T := TX6) (N := 18) hx hb hts (by decide +kernel) hown hK hP 0 rfl rfl 2 (by decide) (hts (.fieldLink RX6 64 "PointRingsModel" "b" "I") (by decide +kernel)) (fun _ h9 => h9) rfl dX6_split_31 ?_
  refine lv_aload_n hx hb dX6_split_34 rfl (lv_at hl 0 rfl) ?_
  refine va_get (D := (dC, dI)) (ci := 5) (v := .int t_b) (C := RX6) (T := TX6) (N := 18) hx hb hts (by decide +kernel) hown hK hP 0 rfl rfl 2 (by decide) (hts (.fieldLink RX6 64 "PointRingsModel" "b" "I") (by decide +kernel)) (fun _ h9 => h9) rfl dX6_split_35 ?_
  obtain ⟨r3, hr3, h⟩ := Option.bind_eq_some_iff.mp h
  have hPc := hP.sub (ws' := [(h0, .inr (5, [.int t_p, .int t_a, .int t_b, .ref h0_inverses, .ref h0_roots, .int t_rooted, .ref h0_points, .int t_pointMany, .ref h0_ahead, .int t_curves, .ref h0_ps, .ref h0_as, .ref h0_bs, .ref h0_from, .ref h0_kernelPoint, .ref h0_kernelOrder, .ref h0_marked, .ref h0_seen]))]) [0] rfl
  have hKc := hK.sub (tys' := []) [] rfl
  refine vp_callSi (W.runV (As := [.int t_b, .int t_b]) (rest := [.long 27, .long (4 * r2.toInt64), .ref h0]) ⟨hx, hb, hml, hown, hts⟩ (ctX6_mul l N dC dI  h0 h0_inverses h0_roots h0_points h0_ahead h0_ps h0_as h0_bs h0_from h0_kernelPoint h0_kernelOrder h0_marked h0_seen t_p t_a t_b t_rooted t_pointMany t_curves t_b t_b r3 hr3) (cwV 2 hts gX6_split_X6_mul rfl rfl rfl (by decide +kernel) ⟨Nat.le_of_ble_eq_true rfl, Nat.le_of_ble_eq_true rfl⟩) ⟨fun a U g mk q => by obtain ⟨q0, qP, qK, qN⟩ := q; exact ⟨q0, qP, va_K.moved (u := U) (U := U.calling g mk a) (Vm.Alike.refl U.vm) qK, nw_same (u := U) (U := U.calling g mk a) rfl qN⟩, va_recv hKc hPc (ci := 5) (q0 := 0) rfl rfl, fun U hU hW => ⟨rfl, by rw [hU]; exact hPc, va_K.moved hW.alike hKc, nw_warm hW hN⟩⟩ rfl rfl hl.1 rfl (lv_room (Nat.le_of_ble_eq_true rfl)) dX6_split_38 ⟨Nat.le_of_ble_eq_true rfl, Nat.le_of_ble_eq_true rfl⟩) (fun q9 eq9 => ?_)
  subst q9
  refine lv_i2l hx hb dX6_split_41 rfl ?_
  refine lv_lmul hx hb dX6_split_42 ?_
  refine lv_ladd hx hb dX6_split_43 ?_
  obtain ⟨r4, hr4, h⟩ := Option.bind_eq_some_iff.mp h
  have hPc := hP.sub (ws' := [(h0, .inr (5, [.int t_p, .int t_a, .int t_b, .ref h0_inverses, .ref h0_roots, .int t_rooted, .ref h0_points, .int t_pointMany, .ref h0_ahead, .int t_curves, .ref h0_ps, .ref h0_as, .ref h0_bs, .ref h0_from, .ref h0_kernelPoint, .ref h0_kernelOrder, .ref h0_marked, .ref h0_seen]))]) [0] rfl
  have hKc := hK.sub (tys' := []) [] rfl
  refine vp_callSi (W.runV (As := [.long ((4 * r2.toInt64) + (27 * r3.toInt64))]) (rest := []) ⟨hx, hb, hml, hown, hts⟩ (ctX6_mod l N dC dI  h0 h0_inverses h0_roots h0_points h0_ahead h0_ps h0_as h0_bs h0_from h0_kernelPoint h0_kernelOrder h0_marked h0_seen t_p t_a t_b t_rooted t_pointMany t_curves ((4 * r2.toInt64) + (27 * r3.toInt64)) r4 hr4) (cwV 1 hts gX6_split_X6_mod rfl rfl rfl (by decide +kernel) ⟨Nat.le_of_ble_eq_true rfl, Nat.le_of_ble_eq_true rfl⟩) ⟨fun a U g mk q => by obtain ⟨q0, qP, qK, qN⟩ := q; exact ⟨q0, qP, va_K.moved (u := U) (U := U.calling g mk a) (Vm.Alike.refl U.vm) qK, nw_same (u := U) (U := U.calling g mk a) rfl qN⟩, va_recv hKc hPc (ci := 5) (q0 := 0) rfl rfl, fun U hU hW => ⟨rfl, by rw [hU]; exact hPc, va_K.moved hW.alike hKc, nw_warm hW hN⟩⟩ rfl rfl hl.1 rfl (lv_room (Nat.le_of_ble_eq_true rfl)) dX6_split_44 ⟨Nat.le_of_ble_eq_true rfl, Nat.le_of_ble_eq_true rfl⟩) (fun q9 eq9 => ?_)
  subst q9
  have hv : r4 = rr := Option.some.inj h
  exact W.iret (v := r4) hx hb hr (fun t ht hW => ⟨_, rfl, hv, ht⟩) (fun q hq => absurd hq List.not_mem_nil) dX6_split_47
