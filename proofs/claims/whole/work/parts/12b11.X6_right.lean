def mX6_right (N : Nat) (t_p : Int32) (t_a : Int32) (t_b : Int32) (a0 : Int32) : Option (Int32) := (mX6_mul N t_p a0 a0).bind (fun r1 => (mX6_mul N t_p r1 a0).bind (fun r2 => (mX6_mul N t_p t_a a0).bind (fun r3 => (mX6_mod N t_p ((r2.toInt64 + r3.toInt64) + t_b.toInt64)).bind (fun r4 => some r4))))
abbrev rmX6_right : Room := { frames := 1, cells := 0, slots := 0, locals := 23 }
set_option maxHeartbeats 4000000 in
set_option maxRecDepth 100000 in
theorem ctX6_right (l : Launch) (N : Nat) (dC : Nat → ClassId) (dI : Nat → Nat → Nat) (h0 : Nat) (h0_inverses : Nat) (h0_roots : Nat) (h0_points : Nat) (h0_ahead : Nat) (h0_ps : Nat) (h0_as : Nat) (h0_bs : Nat) (h0_from : Nat) (h0_kernelPoint : Nat) (h0_kernelOrder : Nat) (h0_marked : Nat) (h0_seen : Nat) (t_p : Int32) (t_a : Int32) (t_b : Int32) (t_rooted : Int32) (t_pointMany : Int32) (t_curves : Int32) (a0 : Int32) (rr : Int32) (h : mX6_right N t_p t_a t_b a0 = some rr) : Met l yX6_right wsX6_right rmX6_right (va_Pc [.ref h0, .int a0] (fun U => va_P (dC, dI) vwCl [(h0, .inr (5, [.int t_p, .int t_a, .int t_b, .ref h0_inverses, .ref h0_roots, .int t_rooted, .ref h0_points, .int t_pointMany, .ref h0_ahead, .int t_curves, .ref h0_ps, .ref h0_as, .ref h0_bs, .ref h0_from, .ref h0_kernelPoint, .ref h0_kernelOrder, .ref h0_marked, .ref h0_seen]))] U.heap ∧ va_K (dC, dI) vwCl [] U ∧ nw_all U)) (vp_Si (fun r => r = rr)) 0 0 (fun _ => False) := by
  refine Met.ofW (cc := cX6_right) (maxL := 2) (ret := (some .int)) (by decide) rfl ?_
  intro p e s m args below meth c s₁ B hml hv
  obtain ⟨rfl, hP, hK, hN⟩ := hv
  have hx := B.exec
  have hb := B.bytes
  have hr := B.returns
  have hts := atoms_spec (ws := wsX6_right) B.pre
  have hown : s.vm.findClass RX6 = some m.cls := findClass_of_methodNamed B.named
  have hlocks := B.notSynchronized
  have hl := lv_entry ([.ref h0, .int a0]) (n := 2) (Nat.le_of_ble_eq_true rfl)
  rw [lg_entry_eq]
  generalize (lg_sl ([.ref h0, .int a0]) ++ List.replicate (2 - (lg_sl ([.ref h0, .int a0])).length) Slot.unset).toArray = ls at hl ⊢
  have hl : lv_has ls 2 [(0, .ref h0), (1, .int a0)] := hl
  dsimp only [mX6_right] at h
  refine lv_aload_n hx hb dX6_right_0 rfl (lv_at hl 0 rfl) ?_
  refine lv_aload_n hx hb dX6_right_1 rfl (lv_at hl 0 rfl) ?_
  refine lv_aload_n hx hb dX6_right_2 rfl (lv_at hl 0 rfl) ?_
  refine lv_iload_n hx hb dX6_right_3 rfl (lv_at hl 1 rfl) ?_
  refine lv_iload_n hx hb dX6_right_4 rfl (lv_at hl 1 rfl) ?_
  obtain ⟨r1, hr1, h⟩ := Option.bind_eq_some_iff.mp h
  have hPc := hP.sub (ws' := [(h0, .inr (5, [.int t_p, .int t_a, .int t_b, .ref h0_inverses, .ref h0_roots, .int t_rooted, .ref h0_points, .int t_pointMany, .ref h0_ahead, .int t_curves, .ref h0_ps, .ref h0_as, .ref h0_bs, .ref h0_from, .ref h0_kernelPoint, .ref h0_kernelOrder, .ref h0_marked, .ref h0_seen]))]) [0] rfl
  have hKc := hK.sub (tys' := []) [] rfl
  refine vp_callSi (W.runV (As := [.int a0, .int a0]) (rest := [.ref h0, .ref h0]) ⟨hx, hb, hml, hown, hts⟩ (ctX6_mul l N dC dI  h0 h0_inverses h0_roots h0_points h0_ahead h0_ps h0_as h0_bs h0_from h0_kernelPoint h0_kernelOrder h0_marked h0_seen t_p t_a t_b t_rooted t_pointMany t_curves a0 a0 r1 hr1) (cwV 2 hts gX6_right_X6_mul rfl rfl rfl (by decide +kernel) ⟨Nat.le_of_ble_eq_true rfl, Nat.le_of_ble_eq_true rfl⟩) ⟨fun a U g mk q => by obtain ⟨q0, qP, qK, qN⟩ := q; exact ⟨q0, qP, va_K.moved (u := U) (U := U.calling g mk a) (Vm.Alike.refl U.vm) qK, nw_same (u := U) (U := U.calling g mk a) rfl qN⟩, va_recv hKc hPc (ci := 5) (q0 := 0) rfl rfl, fun U hU hW => ⟨rfl, by rw [hU]; exact hPc, va_K.moved hW.alike hKc, nw_warm hW hN⟩⟩ rfl rfl hl.1 rfl (lv_room (Nat.le_of_ble_eq_true rfl)) dX6_right_5 ⟨Nat.le_of_ble_eq_true rfl, Nat.le_of_ble_eq_true rfl⟩) (fun q9 eq9 => ?_)
  subst q9
  refine lv_iload_n hx hb dX6_right_8 rfl (lv_at hl 1 rfl) ?_
  obtain ⟨r2, hr2, h⟩ := Option.bind_eq_some_iff.mp h
  have hPc := hP.sub (ws' := [(h0, .inr (5, [.int t_p, .int t_a, .int t_b, .ref h0_inverses, .ref h0_roots, .int t_rooted, .ref h0_points, .int t_pointMany, .ref h0_ahead, .int t_curves, .ref h0_ps, .ref h0_as, .ref h0_bs, .ref h0_from, .ref h0_kernelPoint, .ref h0_kernelOrder, .ref h0_marked, .ref h0_seen]))]) [0] rfl
  have hKc := hK.sub (tys' := []) [] rfl
  refine vp_callSi (W.runV (As := [.int r1, .int a0]) (rest := [.ref h0]) ⟨hx, hb, hml, hown, hts⟩ (ctX6_mul l N dC dI  h0 h0_inverses h0_roots h0_points h0_ahead h0_ps h0_as h0_bs h0_from h0_kernelPoint h0_kernelOrder h0_marked h0_seen t_p t_a t_b t_rooted t_pointMany t_curves r1 a0 r2 hr2) (cwV 2 hts gX6_right_X6_mul rfl rfl rfl (by decide +kernel) ⟨Nat.le_of_ble_eq_true rfl, Nat.le_of_ble_eq_true rfl⟩) ⟨fun a U g mk q => by obtain ⟨q0, qP, qK, qN⟩ := q; exact ⟨q0, qP, va_K.moved (u := U) (U := U.calling g mk a) (Vm.Alike.refl U.vm) qK, nw_same (u := U) (U := U.calling g mk a) rfl qN⟩, va_recv hKc hPc (ci := 5) (q0 := 0) rfl rfl, fun U hU hW => ⟨rfl, by rw [hU]; exact hPc, va_K.moved hW.alike hKc, nw_warm hW hN⟩⟩ rfl rfl hl.1 rfl (lv_room (Nat.le_of_ble_eq_true rfl)) dX6_right_9 ⟨Nat.le_of_ble_eq_true rfl, Nat.le_of_ble_eq_true rfl⟩) (fun q9 eq9 => ?_)
  subst q9
  refine lv_i2l hx hb dX6_right_12 rfl ?_
  refine lv_aload_n hx hb dX6_right_13 rfl (lv_at hl 0 rfl) ?_
  refine lv_aload_n hx hb dX6_right_14 rfl (lv_at hl 0 rfl) ?_
  refine va_get (D := (dC, dI)) (ci := 5) (v := .int t_a) (C := RX6) (T := TX6) (N := 18) hx hb hts (by decide +kernel) hown hK hP 0 rfl rfl 1 (by decide) (hts (.fieldLink RX6 61 "PointRingsModel" "a" "I") (by decide +kernel)) (fun _ h9 => h9) rfl dX6_right_15 ?_
  refine lv_iload_n hx hb dX6_right_18 rfl (lv_at hl 1 rfl) ?_
  obtain ⟨r3, hr3, h⟩ := Option.bind_eq_some_iff.mp h
  have hPc := hP.sub (ws' := [(h0, .inr (5, [.int t_p, .int t_a, .int t_b, .ref h0_inverses, .ref h0_roots, .int t_rooted, .ref h0_points, .int t_pointMany, .ref h0_ahead, .int t_curves, .ref h0_ps, .ref h0_as, .ref h0_bs, .ref h0_from, .ref h0_kernelPoint, .ref h0_kernelOrder, .ref h0_marked, .ref h0_seen]))]) [0] rfl
  have hKc := hK.sub (tys' := []) [] rfl
  refine vp_callSi (W.runV (As := [.int t_a, .int a0]) (rest := [.long r2.toInt64, .ref h0]) ⟨hx, hb, hml, hown, hts⟩ (ctX6_mul l N dC dI  h0 h0_inverses h0_roots h0_points h0_ahead h0_ps h0_as h0_bs h0_from h0_kernelPoint h0_kernelOrder h0_marked h0_seen t_p t_a t_b t_rooted t_pointMany t_curves t_a a0 r3 hr3) (cwV 2 hts gX6_right_X6_mul rfl rfl rfl (by decide +kernel) ⟨Nat.le_of_ble_eq_true rfl, Nat.le_of_ble_eq_true rfl⟩) ⟨fun a U g mk q => by obtain ⟨q0, qP, qK, qN⟩ := q; exact ⟨q0, qP, va_K.moved (u := U) (U := U.calling g mk a) (Vm.Alike.refl U.vm) qK, nw_same (u := U) (U := U.calling g mk a) rfl qN⟩, va_recv hKc hPc (ci := 5) (q0 := 0) rfl rfl, fun U hU hW => ⟨rfl, by rw [hU]; exact hPc, va_K.moved hW.alike hKc, nw_warm hW hN⟩⟩ rfl rfl hl.1 rfl (lv_room (Nat.le_of_ble_eq_true rfl)) dX6_right_19 ⟨Nat.le_of_ble_eq_true rfl, Nat.le_of_ble_eq_true rfl⟩) (fun q9 eq9 => ?_)
  subst q9
  refine lv_i2l hx hb dX6_right_22 rfl ?_
  refine lv_ladd hx hb dX6_right_23 ?_
  refine lv_aload_n hx hb dX6_right_24 rfl (lv_at hl 0 rfl) ?_
  refine va_get (D := (dC, dI)) (ci := 5) (v := .int t_b) (C := RX6) (T := TX6) (N := 18) hx hb hts (by decide +kernel) hown hK hP 0 rfl rfl 2 (by decide) (hts (.fieldLink RX6 64 "PointRingsModel" "b" "I") (by decide +kernel)) (fun _ h9 => h9) rfl dX6_right_25 ?_
  refine lv_i2l hx hb dX6_right_28 rfl ?_
  refine lv_ladd hx hb dX6_right_29 ?_
  obtain ⟨r4, hr4, h⟩ := Option.bind_eq_some_iff.mp h
  have hPc := hP.sub (ws' := [(h0, .inr (5, [.int t_p, .int t_a, .int t_b, .ref h0_inverses, .ref h0_roots, .int t_rooted, .ref h0_points, .int t_pointMany, .ref h0_ahead, .int t_curves, .ref h0_ps, .ref h0_as, .ref h0_bs, .ref h0_from, .ref h0_kernelPoint, .ref h0_kernelOrder, .ref h0_marked, .ref h0_seen]))]) [0] rfl
  have hKc := hK.sub (tys' := []) [] rfl
  refine vp_callSi (W.runV (As := [.long ((r2.toInt64 + r3.toInt64) + t_b.toInt64)]) (rest := []) ⟨hx, hb, hml, hown, hts⟩ (ctX6_mod l N dC dI  h0 h0_inverses h0_roots h0_points h0_ahead h0_ps h0_as h0_bs h0_from h0_kernelPoint h0_kernelOrder h0_marked h0_seen t_p t_a t_b t_rooted t_pointMany t_curves ((r2.toInt64 + r3.toInt64) + t_b.toInt64) r4 hr4) (cwV 1 hts gX6_right_X6_mod rfl rfl rfl (by decide +kernel) ⟨Nat.le_of_ble_eq_true rfl, Nat.le_of_ble_eq_true rfl⟩) ⟨fun a U g mk q => by obtain ⟨q0, qP, qK, qN⟩ := q; exact ⟨q0, qP, va_K.moved (u := U) (U := U.calling g mk a) (Vm.Alike.refl U.vm) qK, nw_same (u := U) (U := U.calling g mk a) rfl qN⟩, va_recv hKc hPc (ci := 5) (q0 := 0) rfl rfl, fun U hU hW => ⟨rfl, by rw [hU]; exact hPc, va_K.moved hW.alike hKc, nw_warm hW hN⟩⟩ rfl rfl hl.1 rfl (lv_room (Nat.le_of_ble_eq_true rfl)) dX6_right_30 ⟨Nat.le_of_ble_eq_true rfl, Nat.le_of_ble_eq_true rfl⟩) (fun q9 eq9 => ?_)
  subst q9
  have hv : r4 = rr := Option.some.inj h
  exact W.iret (v := r4) hx hb hr (fun t ht hW => ⟨_, rfl, hv, ht⟩) (fun q hq => absurd hq List.not_mem_nil) dX6_right_33
