def mX5_curve (N : Nat) (t_size : Int32) (a0 : Int32) (a1 : Int32) (a2 : Int32) : Option ((Int32 × Int32) ⊕ (Int32 × Int32 × Int32 × Int32 × Int32 × Int32 × Int32 × Int32 × Int32 × Int32 × Int32 × Int32 × Int32 × Int32)) := (mX4_isFieldPrime N a0).bind (fun r1 => if r1 = 0 then some (.inl ((-2), t_size)) else (mX4_isBelow N a1 a0).bind (fun r3 => if r3 = 0 then some (.inl ((-2), t_size)) else (mX4_isBelow N a2 a0).bind (fun r5 => if r5 = 0 then some (.inl ((-2), t_size)) else (mX4_cubicMark N a1 a2 a0).bind (fun r7 => if r7 = 0 then some (.inl ((-3), t_size)) else (mX0_init N a0 a1 a2).bind (fun r9 => match r9 with | (u10, u11, u12, u13, u14) => if t_size < 24 then (mX5_keep_k N t_size).bind (fun r16 => match r16 with | (r18, u17) => some (.inr (r18, u17, u10, u11, u12, 0, 0, 0, 0, 0, 0, 0, u13, u14))) else some (.inl ((-4), t_size)))))))
abbrev rmX5_curve_l : Room := { frames := 3, cells := 1, slots := 12, locals := 61 }
set_option maxHeartbeats 4000000 in
set_option maxRecDepth 100000 in
theorem ctX5_curve_l (l : Launch) (N : Nat) (dC : Nat → ClassId) (dI : Nat → Nat → Nat) (sz : Nat) (h0 : Nat) (h0_held : Nat) (h0_survey : Nat) (k_t_held : ClassId) (t_size : Int32) (t_held : Nat → Option Nat) (a0 : Int32) (a1 : Int32) (a2 : Int32) (rr : Int32 × Int32) (h : mX5_curve N t_size a0 a1 a2 = some (.inl rr)) : Met l yX5_curve wsX5_curve rmX5_curve_l (va_Pc [.ref h0, .int a0, .int a1, .int a2] (fun U => U.heap.size = sz ∧ va_P (dC, dI) vwCl [(h0, .inr (4, [.ref h0_held, .int t_size, .ref h0_survey])), (h0_held, .inl (k_t_held, 24, .inr (.inr (.inr (.inr t_held)))))] U.heap ∧ va_K (dC, dI) vwCl [(k_t_held, .object "PointRings$Curve")] U ∧ nw_all U ∧ va_D (fun _ => True) [(h0, .inr (4, [.ref h0_held, .int t_size, .ref h0_survey])), (h0_held, .inl (k_t_held, 24, .inr (.inr (.inr (.inr t_held)))))])) (va_Qi (fun (r : Int32) (u : Int32) => (r, u) = rr) (fun (u : Int32) t => match u with | u0 => va_P (dC, dI) vwCl [(h0, .inr (4, [.ref h0_held, .int u0, .ref h0_survey])), (h0_held, .inl (k_t_held, 24, .inr (.inr (.inr (.inr t_held)))))] t.heap ∧ va_K (dC, dI) vwCl [(k_t_held, .object "PointRings$Curve")] t ∧ va_D (va_A [(h0, .inr (4, [.ref h0_held, .int t_size, .ref h0_survey])), (h0_held, .inl (k_t_held, 24, .inr (.inr (.inr (.inr t_held)))))] sz) [(h0, .inr (4, [.ref h0_held, .int u0, .ref h0_survey])), (h0_held, .inl (k_t_held, 24, .inr (.inr (.inr (.inr t_held)))))]) (va_A [(h0, .inr (4, [.ref h0_held, .int t_size, .ref h0_survey])), (h0_held, .inl (k_t_held, 24, .inr (.inr (.inr (.inr t_held)))))] sz)) 1 12 (va_A [(h0, .inr (4, [.ref h0_held, .int t_size, .ref h0_survey])), (h0_held, .inl (k_t_held, 24, .inr (.inr (.inr (.inr t_held)))))] sz) := by
  refine Met.ofW (cc := cX5_curve) (maxL := 4) (ret := (some .int)) (by decide) rfl ?_
  intro p e s m args below meth c s₁ B hml hv
  obtain ⟨rfl, hsz, hP, hK, hN, hD0⟩ := hv
  have hx := B.exec
  have hb := B.bytes
  have hr := B.returns
  have hts := atoms_spec (ws := wsX5_curve) B.pre
  have hown : s.vm.findClass RX5 = some m.cls := findClass_of_methodNamed B.named
  have hlocks := B.notSynchronized
  subst hsz
  have hD := hD0.self (sz := s.heap.size)
  generalize hAe : va_A [(h0, .inr (4, [.ref h0_held, .int t_size, .ref h0_survey])), (h0_held, .inl (k_t_held, 24, .inr (.inr (.inr (.inr t_held)))))] s.heap.size = A at hD ⊢
  have hA0 : ∀ q : Nat, s.heap.size ≤ q → A q := fun q h => by rw [← hAe]; exact Or.inr h
  have hS : va_S A s.heap s.heap [] := va_S.rf
  have hP : va_P (dC, dI) vwCl [(h0, .inr (4, [.ref h0_held, .int t_size, .ref h0_survey])), (h0_held, .inl (k_t_held, 24, .inr (.inr (.inr (.inr t_held)))))] s.heap := hP
  have hl := lv_entry ([.ref h0, .int a0, .int a1, .int a2]) (n := 4) (Nat.le_of_ble_eq_true rfl)
  rw [lg_entry_eq]
  generalize (lg_sl ([.ref h0, .int a0, .int a1, .int a2]) ++ List.replicate (4 - (lg_sl ([.ref h0, .int a0, .int a1, .int a2])).length) Slot.unset).toArray = ls at hl ⊢
  have hl : lv_has ls 4 [(0, .ref h0), (1, .int a0), (2, .int a1), (3, .int a2)] := hl
  dsimp only [mX5_curve] at h
  refine lv_iload_n hx hb dX5_curve_0 rfl (lv_at hl 1 rfl) ?_
  obtain ⟨r1, hr1, h⟩ := Option.bind_eq_some_iff.mp h
  refine vp_callSi (W.runS (As := [.int a0]) (rest := []) ⟨hx, hb, hml, hown, hts⟩ (ctX4_isFieldPrime l N  a0 r1 hr1) (va_cwS 1 hts gX5_curve_X4_isFieldPrime rfl rfl rfl (by decide +kernel) ⟨Nat.le_of_ble_eq_true rfl, Nat.le_of_ble_eq_true rfl⟩) preEq rfl rfl hl.1 rfl (lv_room (Nat.le_of_ble_eq_true rfl)) dX5_curve_1 ⟨Nat.le_of_ble_eq_true rfl, Nat.le_of_ble_eq_true rfl⟩) (fun q9 eq9 => ?_)
  subst q9
  refine lv_if_eq (tgt := 23) hx hb dX5_curve_4 (by decide) (fun c2 => ?_) (fun c2 => ?_)
  · replace h := (if_pos c2).symm.trans h
    refine lv_bipush (v := (-2)) hx hb dX5_curve_23 (by decide) ?_
    have hv : ((-2), t_size) = rr := Sum.inl.inj (Option.some.inj h)
    have hP9 := hP.sub (ws' := [(h0, .inr (4, [.ref h0_held, .int t_size, .ref h0_survey])), (h0_held, .inl (k_t_held, 24, .inr (.inr (.inr (.inr t_held)))))]) [0, 1] rfl
    have hD9 := hD.sub (ws' := [(h0, .inr (4, [.ref h0_held, .int t_size, .ref h0_survey])), (h0_held, .inl (k_t_held, 24, .inr (.inr (.inr (.inr t_held)))))]) [0, 1] (by decide) rfl
    have hK9 := hK.sub (tys' := [(k_t_held, .object "PointRings$Curve")]) [0] rfl
    refine W.widen (k := 1) (n := 12) (by decide +kernel) (by decide +kernel) ?_
    exact W.iret (v := (-2)) hx hb hr (fun t ht hW => ⟨⟨(-2), t_size, rfl, hv, by rw [ht]; exact hP9, va_K.moved hW.alike hK9, hD9⟩, hS.F ht⟩) hS.2.2 dX5_curve_25
  · replace h := (if_neg c2).symm.trans h
    refine lv_iload_n hx hb dX5_curve_7 rfl (lv_at hl 2 rfl) ?_
    refine lv_iload_n hx hb dX5_curve_8 rfl (lv_at hl 1 rfl) ?_
    obtain ⟨r3, hr3, h⟩ := Option.bind_eq_some_iff.mp h
    refine vp_callSi (W.runS (As := [.int a1, .int a0]) (rest := []) ⟨hx, hb, hml, hown, hts⟩ (ctX4_isBelow l N  a1 a0 r3 hr3) (va_cwS 2 hts gX5_curve_X4_isBelow rfl rfl rfl (by decide +kernel) ⟨Nat.le_of_ble_eq_true rfl, Nat.le_of_ble_eq_true rfl⟩) preEq rfl rfl hl.1 rfl (lv_room (Nat.le_of_ble_eq_true rfl)) dX5_curve_9 ⟨Nat.le_of_ble_eq_true rfl, Nat.le_of_ble_eq_true rfl⟩) (fun q9 eq9 => ?_)
    subst q9
    refine lv_if_eq (tgt := 23) hx hb dX5_curve_12 (by decide) (fun c4 => ?_) (fun c4 => ?_)
    · replace h := (if_pos c4).symm.trans h
      refine lv_bipush (v := (-2)) hx hb dX5_curve_23 (by decide) ?_
      have hv : ((-2), t_size) = rr := Sum.inl.inj (Option.some.inj h)
      have hP9 := hP.sub (ws' := [(h0, .inr (4, [.ref h0_held, .int t_size, .ref h0_survey])), (h0_held, .inl (k_t_held, 24, .inr (.inr (.inr (.inr t_held)))))]) [0, 1] rfl
      have hD9 := hD.sub (ws' := [(h0, .inr (4, [.ref h0_held, .int t_size, .ref h0_survey])), (h0_held, .inl (k_t_held, 24, .inr (.inr (.inr (.inr t_held)))))]) [0, 1] (by decide) rfl
      have hK9 := hK.sub (tys' := [(k_t_held, .object "PointRings$Curve")]) [0] rfl
      refine W.widen (k := 1) (n := 12) (by decide +kernel) (by decide +kernel) ?_
      exact W.iret (v := (-2)) hx hb hr (fun t ht hW => ⟨⟨(-2), t_size, rfl, hv, by rw [ht]; exact hP9, va_K.moved hW.alike hK9, hD9⟩, hS.F ht⟩) hS.2.2 dX5_curve_25
    · replace h := (if_neg c4).symm.trans h
      refine lv_iload_n hx hb dX5_curve_15 rfl (lv_at hl 3 rfl) ?_
      refine lv_iload_n hx hb dX5_curve_16 rfl (lv_at hl 1 rfl) ?_
      obtain ⟨r5, hr5, h⟩ := Option.bind_eq_some_iff.mp h
      refine vp_callSi (W.runS (As := [.int a2, .int a0]) (rest := []) ⟨hx, hb, hml, hown, hts⟩ (ctX4_isBelow l N  a2 a0 r5 hr5) (va_cwS 2 hts gX5_curve_X4_isBelow rfl rfl rfl (by decide +kernel) ⟨Nat.le_of_ble_eq_true rfl, Nat.le_of_ble_eq_true rfl⟩) preEq rfl rfl hl.1 rfl (lv_room (Nat.le_of_ble_eq_true rfl)) dX5_curve_17 ⟨Nat.le_of_ble_eq_true rfl, Nat.le_of_ble_eq_true rfl⟩) (fun q9 eq9 => ?_)
      subst q9
      refine lv_if_ne (tgt := 26) hx hb dX5_curve_20 (by decide) (fun c6 => ?_) (fun c6 => ?_)
      · replace h := (if_neg c6).symm.trans h
        refine lv_iload_n hx hb dX5_curve_26 rfl (lv_at hl 2 rfl) ?_
        refine lv_iload_n hx hb dX5_curve_27 rfl (lv_at hl 3 rfl) ?_
        refine lv_iload_n hx hb dX5_curve_28 rfl (lv_at hl 1 rfl) ?_
        obtain ⟨r7, hr7, h⟩ := Option.bind_eq_some_iff.mp h
        refine vp_callSi (W.runS (As := [.int a1, .int a2, .int a0]) (rest := []) ⟨hx, hb, hml, hown, hts⟩ (ctX4_cubicMark l N  a1 a2 a0 r7 hr7) (va_cwS 3 hts gX5_curve_X4_cubicMark rfl rfl rfl (by decide +kernel) ⟨Nat.le_of_ble_eq_true rfl, Nat.le_of_ble_eq_true rfl⟩) preEq rfl rfl hl.1 rfl (lv_room (Nat.le_of_ble_eq_true rfl)) dX5_curve_29 ⟨Nat.le_of_ble_eq_true rfl, Nat.le_of_ble_eq_true rfl⟩) (fun q9 eq9 => ?_)
        subst q9
        refine lv_if_ne (tgt := 38) hx hb dX5_curve_32 (by decide) (fun c8 => ?_) (fun c8 => ?_)
        · replace h := (if_neg c8).symm.trans h
          refine lv_aload_n hx hb dX5_curve_38 rfl (lv_at hl 0 rfl) ?_
          refine va_new (ci := 0) (fs := [.int 0, .int 0, .int 0, .int 0, .int 0, .int 0, .int 0, .int 0, .int 0, .int 0, .int 0, .int 0]) (C := RX0) (T := TX0) (N := 12) hx hb hts (by decide +kernel) tyX0 tyX0_ok hown (hts (.classLink RX5 9 RX0) (by decide +kernel)) (hts (.instantiable RX0 12) (by decide +kernel)) (hts (.initialized RX0) (by decide +kernel)) hK hP hD hS hA0 rfl (fun j hj => by rcases (show j = 0 ∨ j = 1 ∨ j = 2 ∨ j = 3 ∨ j = 4 ∨ j = 5 ∨ j = 6 ∨ j = 7 ∨ j = 8 ∨ j = 9 ∨ j = 10 ∨ j = 11 by omega) with rfl | rfl | rfl | rfl | rfl | rfl | rfl | rfl | rfl | rfl | rfl | rfl <;> rfl) (by decide +kernel) (by decide +kernel) dX5_curve_39 (fun q39 H hP hD hS => ?_)
          have hP : va_P (dC, dI) vwCl [(h0, .inr (4, [.ref h0_held, .int t_size, .ref h0_survey])), (h0_held, .inl (k_t_held, 24, .inr (.inr (.inr (.inr t_held))))), (q39, .inr (0, [.int 0, .int 0, .int 0, .int 0, .int 0, .int 0, .int 0, .int 0, .int 0, .int 0, .int 0, .int 0]))] H := hP
          have hD : va_D A [(h0, .inr (4, [.ref h0_held, .int t_size, .ref h0_survey])), (h0_held, .inl (k_t_held, 24, .inr (.inr (.inr (.inr t_held))))), (q39, .inr (0, [.int 0, .int 0, .int 0, .int 0, .int 0, .int 0, .int 0, .int 0, .int 0, .int 0, .int 0, .int 0]))] := hD
          refine lv_dup hx hb dX5_curve_42 rfl ?_
          refine lv_iload_n hx hb dX5_curve_43 rfl (lv_at hl 1 rfl) ?_
          refine lv_iload_n hx hb dX5_curve_44 rfl (lv_at hl 2 rfl) ?_
          refine lv_iload_n hx hb dX5_curve_45 rfl (lv_at hl 3 rfl) ?_
          obtain ⟨r9, hr9, h⟩ := Option.bind_eq_some_iff.mp h
          have hPc := hP.sub (ws' := [(q39, .inr (0, [.int 0, .int 0, .int 0, .int 0, .int 0, .int 0, .int 0, .int 0, .int 0, .int 0, .int 0, .int 0]))]) [2] rfl
          have hDc := hD.sub (ws' := [(q39, .inr (0, [.int 0, .int 0, .int 0, .int 0, .int 0, .int 0, .int 0, .int 0, .int 0, .int 0, .int 0, .int 0]))]) [2] (by decide) rfl
          have hKc := hK.sub (tys' := []) [] rfl
          have hFc := va_free (wc := [(q39, .inr (0, [.int 0, .int 0, .int 0, .int 0, .int 0, .int 0, .int 0, .int 0, .int 0, .int 0, .int 0, .int 0]))]) hD hS hA0 [2] rfl
          refine va_callv (va_runI (As := [.int a0, .int a1, .int a2]) (rest := [.ref q39, .ref h0]) ⟨hx, hb, hml, hown, hts⟩ (ctX0_init l N dC dI _ q39 0 0 0 0 0 0 0 0 0 0 0 0 a0 a1 a2 r9 hr9) (cwI 3 hts gX5_curve_X0_init rfl rfl rfl (hts (.initialized RX0) (by decide +kernel)) (hts (.methodLink RX5 40 yX0_init) (by decide +kernel)) (hts (.instanceMethod yX0_init) (by decide +kernel)) rfl (by decide +kernel) ⟨Nat.le_of_ble_eq_true rfl, Nat.le_of_ble_eq_true rfl⟩) ⟨fun a U g mk q => by obtain ⟨q0, q1, qP, qK, qN, qD⟩ := q; exact ⟨q0, q1, qP, va_K.moved (u := U) (U := U.calling g mk a) (Vm.Alike.refl U.vm) qK, nw_same (u := U) (U := U.calling g mk a) rfl qN, qD⟩, fun U hU hW => ⟨rfl, by rw [hU], by rw [hU]; exact hPc, va_K.moved hW.alike hKc, nw_warm hW hN, hDc.weaken (fun _ _ _ _ => trivial)⟩⟩ rfl rfl hl.1 rfl (lv_room (Nat.le_of_ble_eq_true rfl)) dX5_curve_46 ⟨Nat.le_of_ble_eq_true rfl, Nat.le_of_ble_eq_true rfl⟩) hS (fun q _ h => hFc q h) hFc (fun u t H1 locs ht hvm hw hB1 hz1 hk1 hS => ?_)
          obtain ⟨u10, u11, u12, u13, u14⟩ := u
          obtain ⟨hP1, hK1, hD1⟩ := hB1
          rw [ht] at hP1
          have hK1 := va_K.moved hvm.symm hK1
          subst hw
          try dsimp only at h
          obtain ⟨hP, hD⟩ := va_join (wr := [(h0, .inr (4, [.ref h0_held, .int t_size, .ref h0_survey])), (h0_held, .inl (k_t_held, 24, .inr (.inr (.inr (.inr t_held)))))]) (w1 := [(q39, .inr (0, [.int u10, .int u11, .int u12, .int 0, .int 0, .int 0, .int 0, .int 0, .int 0, .int 0, .int u13, .int u14]))]) hP hD [2] [0, 1] rfl rfl (by decide) (by decide) hk1 hFc hP1 hD1
          generalize H1 = H at hP hS ⊢
          have hP := hP.sub (ws' := [(h0, .inr (4, [.ref h0_held, .int t_size, .ref h0_survey])), (h0_held, .inl (k_t_held, 24, .inr (.inr (.inr (.inr t_held))))), (q39, .inr (0, [.int u10, .int u11, .int u12, .int 0, .int 0, .int 0, .int 0, .int 0, .int 0, .int 0, .int u13, .int u14]))]) [0, 1, 2] rfl
          have hD := hD.sub (ws' := [(h0, .inr (4, [.ref h0_held, .int t_size, .ref h0_survey])), (h0_held, .inl (k_t_held, 24, .inr (.inr (.inr (.inr t_held))))), (q39, .inr (0, [.int u10, .int u11, .int u12, .int 0, .int 0, .int 0, .int 0, .int 0, .int 0, .int 0, .int u13, .int u14]))]) [0, 1, 2] (by decide) rfl
          by_cases c15 : t_size < 24
          · replace h := (if_pos c15).symm.trans h
            obtain ⟨r16, hr16, h⟩ := Option.bind_eq_some_iff.mp h
            have hPc := hP.sub (ws' := [(h0, .inr (4, [.ref h0_held, .int t_size, .ref h0_survey])), (h0_held, .inl (k_t_held, 24, .inr (.inr (.inr (.inr t_held))))), (q39, .inr (0, [.int u10, .int u11, .int u12, .int 0, .int 0, .int 0, .int 0, .int 0, .int 0, .int 0, .int u13, .int u14]))]) [0, 1, 2] rfl
            have hDc := hD.sub (ws' := [(h0, .inr (4, [.ref h0_held, .int t_size, .ref h0_survey])), (h0_held, .inl (k_t_held, 24, .inr (.inr (.inr (.inr t_held))))), (q39, .inr (0, [.int u10, .int u11, .int u12, .int 0, .int 0, .int 0, .int 0, .int 0, .int 0, .int 0, .int u13, .int u14]))]) [0, 1, 2] (by decide) rfl
            have hKc := hK.sub (tys' := [(k_t_held, .object "PointRings$Curve")]) [0] rfl
            have hFc := va_free (wc := [(h0, .inr (4, [.ref h0_held, .int t_size, .ref h0_survey])), (h0_held, .inl (k_t_held, 24, .inr (.inr (.inr (.inr t_held))))), (q39, .inr (0, [.int u10, .int u11, .int u12, .int 0, .int 0, .int 0, .int 0, .int 0, .int 0, .int 0, .int u13, .int u14]))]) hD hS hA0 [0, 1, 2] rfl
            refine va_calli (va_runV (As := [.ref q39]) (rest := []) ⟨hx, hb, hml, hown, hts⟩ (ctX5_keep_k l N dC dI _ h0 h0_held q39 h0_survey k_t_held t_size t_held u10 u11 u12 0 0 0 0 0 0 0 u13 u14 r16 hr16 c15) (cwV 1 hts gX5_curve_X5_keep rfl rfl rfl (by decide +kernel) ⟨Nat.le_of_ble_eq_true rfl, Nat.le_of_ble_eq_true rfl⟩) ⟨fun a U g mk q => by obtain ⟨q0, q1, qP, qK, qN, qD⟩ := q; exact ⟨q0, q1, qP, va_K.moved (u := U) (U := U.calling g mk a) (Vm.Alike.refl U.vm) qK, nw_same (u := U) (U := U.calling g mk a) rfl qN, qD⟩, va_recv hKc hPc (ci := 4) (q0 := 0) rfl rfl, fun U hU hW => ⟨rfl, by rw [hU], by rw [hU]; exact hPc, va_K.moved hW.alike hKc, nw_warm hW hN, hDc.weaken (fun _ _ _ _ => trivial)⟩⟩ rfl rfl hl.1 rfl (lv_room (Nat.le_of_ble_eq_true rfl)) dX5_curve_49 ⟨Nat.le_of_ble_eq_true rfl, Nat.le_of_ble_eq_true rfl⟩) hS (fun q _ h => hFc q h) hFc (fun rz u t H1 locs ht hvm hw hB1 hz1 hk1 hS => ?_)
            obtain ⟨u17, rfl⟩ : ∃ z, z = u := ⟨_, rfl⟩
            obtain ⟨hP1, hK1, hD1⟩ := hB1
            rw [ht] at hP1
            have hK1 := va_K.moved hvm.symm hK1
            obtain ⟨r18, rfl⟩ : ∃ z, z = rz := ⟨_, rfl⟩
            subst hw
            try dsimp only at h
            obtain ⟨hP, hD⟩ := va_join (wr := []) (w1 := [(h0, .inr (4, [.ref h0_held, .int u17, .ref h0_survey])), (h0_held, .inl (k_t_held, 24, .inr (.inr (.inr (.inr (va_up t_held t_size.toNatClampNeg (some q39))))))), (q39, .inr (0, [.int u10, .int u11, .int u12, .int 0, .int 0, .int 0, .int 0, .int 0, .int 0, .int 0, .int u13, .int u14]))]) hP hD [0, 1, 2] [] rfl rfl (by decide) (by decide) hk1 hFc hP1 hD1
            generalize H1 = H at hP hS ⊢
            have hP := hP.sub (ws' := [(h0, .inr (4, [.ref h0_held, .int u17, .ref h0_survey])), (h0_held, .inl (k_t_held, 24, .inr (.inr (.inr (.inr (va_up t_held t_size.toNatClampNeg (some q39))))))), (q39, .inr (0, [.int u10, .int u11, .int u12, .int 0, .int 0, .int 0, .int 0, .int 0, .int 0, .int 0, .int u13, .int u14]))]) [0, 1, 2] rfl
            have hD := hD.sub (ws' := [(h0, .inr (4, [.ref h0_held, .int u17, .ref h0_survey])), (h0_held, .inl (k_t_held, 24, .inr (.inr (.inr (.inr (va_up t_held t_size.toNatClampNeg (some q39))))))), (q39, .inr (0, [.int u10, .int u11, .int u12, .int 0, .int 0, .int 0, .int 0, .int 0, .int 0, .int 0, .int u13, .int u14]))]) [0, 1, 2] (by decide) rfl
            exact absurd (Option.some.inj h) (fun hh => nomatch hh)
          · replace h := (if_neg c15).symm.trans h
            have hPc := hP.sub (ws' := [(h0, .inr (4, [.ref h0_held, .int t_size, .ref h0_survey])), (h0_held, .inl (k_t_held, 24, .inr (.inr (.inr (.inr t_held)))))]) [0, 1] rfl
            have hKc := hK.sub (tys' := [(k_t_held, .object "PointRings$Curve")]) [0] rfl
            refine vp_callSi (W.runV (As := [.ref q39]) (rest := []) ⟨hx, hb, hml, hown, hts⟩ (ctX5_keep_f l N dC dI  h0 h0_held h0_survey q39 k_t_held t_size t_held (-4) rfl c15) (cwV 1 hts gX5_curve_X5_keep rfl rfl rfl (by decide +kernel) ⟨Nat.le_of_ble_eq_true rfl, Nat.le_of_ble_eq_true rfl⟩) ⟨fun a U g mk q => by obtain ⟨q0, qP, qK, qN⟩ := q; exact ⟨q0, qP, va_K.moved (u := U) (U := U.calling g mk a) (Vm.Alike.refl U.vm) qK, nw_same (u := U) (U := U.calling g mk a) rfl qN⟩, va_recv hKc hPc (ci := 4) (q0 := 0) rfl rfl, fun U hU hW => ⟨rfl, by rw [hU]; exact hPc, va_K.moved hW.alike hKc, nw_warm hW hN⟩⟩ rfl rfl hl.1 rfl (lv_room (Nat.le_of_ble_eq_true rfl)) dX5_curve_49 ⟨Nat.le_of_ble_eq_true rfl, Nat.le_of_ble_eq_true rfl⟩) (fun q9 eq9 => ?_)
            subst q9
            have hv : ((-4), t_size) = rr := Sum.inl.inj (Option.some.inj h)
            have hP9 := hP.sub (ws' := [(h0, .inr (4, [.ref h0_held, .int t_size, .ref h0_survey])), (h0_held, .inl (k_t_held, 24, .inr (.inr (.inr (.inr t_held)))))]) [0, 1] rfl
            have hD9 := hD.sub (ws' := [(h0, .inr (4, [.ref h0_held, .int t_size, .ref h0_survey])), (h0_held, .inl (k_t_held, 24, .inr (.inr (.inr (.inr t_held)))))]) [0, 1] (by decide) rfl
            have hK9 := hK.sub (tys' := [(k_t_held, .object "PointRings$Curve")]) [0] rfl
            refine W.widen (k := 1) (n := 12) (by decide +kernel) (by decide +kernel) ?_
            exact W.iret (v := (-4)) hx hb hr (fun t ht hW => ⟨⟨(-4), t_size, rfl, hv, by rw [ht]; exact hP9, va_K.moved hW.alike hK9, hD9⟩, hS.F ht⟩) hS.2.2 dX5_curve_52
        · replace h := (if_pos c8).symm.trans h
          refine lv_bipush (v := (-3)) hx hb dX5_curve_35 (by decide) ?_
          have hv : ((-3), t_size) = rr := Sum.inl.inj (Option.some.inj h)
          have hP9 := hP.sub (ws' := [(h0, .inr (4, [.ref h0_held, .int t_size, .ref h0_survey])), (h0_held, .inl (k_t_held, 24, .inr (.inr (.inr (.inr t_held)))))]) [0, 1] rfl
          have hD9 := hD.sub (ws' := [(h0, .inr (4, [.ref h0_held, .int t_size, .ref h0_survey])), (h0_held, .inl (k_t_held, 24, .inr (.inr (.inr (.inr t_held)))))]) [0, 1] (by decide) rfl
          have hK9 := hK.sub (tys' := [(k_t_held, .object "PointRings$Curve")]) [0] rfl
          refine W.widen (k := 1) (n := 12) (by decide +kernel) (by decide +kernel) ?_
          exact W.iret (v := (-3)) hx hb hr (fun t ht hW => ⟨⟨(-3), t_size, rfl, hv, by rw [ht]; exact hP9, va_K.moved hW.alike hK9, hD9⟩, hS.F ht⟩) hS.2.2 dX5_curve_37
      · replace h := (if_pos c6).symm.trans h
        refine lv_bipush (v := (-2)) hx hb dX5_curve_23 (by decide) ?_
        have hv : ((-2), t_size) = rr := Sum.inl.inj (Option.some.inj h)
        have hP9 := hP.sub (ws' := [(h0, .inr (4, [.ref h0_held, .int t_size, .ref h0_survey])), (h0_held, .inl (k_t_held, 24, .inr (.inr (.inr (.inr t_held)))))]) [0, 1] rfl
        have hD9 := hD.sub (ws' := [(h0, .inr (4, [.ref h0_held, .int t_size, .ref h0_survey])), (h0_held, .inl (k_t_held, 24, .inr (.inr (.inr (.inr t_held)))))]) [0, 1] (by decide) rfl
        have hK9 := hK.sub (tys' := [(k_t_held, .object "PointRings$Curve")]) [0] rfl
        refine W.widen (k := 1) (n := 12) (by decide +kernel) (by decide +kernel) ?_
        exact W.iret (v := (-2)) hx hb hr (fun t ht hW => ⟨⟨(-2), t_size, rfl, hv, by rw [ht]; exact hP9, va_K.moved hW.alike hK9, hD9⟩, hS.F ht⟩) hS.2.2 dX5_curve_25
abbrev rmX5_curve_r : Room := { frames := 3, cells := 1, slots := 12, locals := 61 }
set_option maxHeartbeats 4000000 in
set_option maxRecDepth 100000 in
theorem ctX5_curve_r (l : Launch) (N : Nat) (dC : Nat → ClassId) (dI : Nat → Nat → Nat) (sz : Nat) (h0 : Nat) (h0_held : Nat) (h0_survey : Nat) (k_t_held : ClassId) (t_size : Int32) (t_held : Nat → Option Nat) (a0 : Int32) (a1 : Int32) (a2 : Int32) (rr : Int32 × Int32 × Int32 × Int32 × Int32 × Int32 × Int32 × Int32 × Int32 × Int32 × Int32 × Int32 × Int32 × Int32) (h : mX5_curve N t_size a0 a1 a2 = some (.inr rr)) : Met l yX5_curve wsX5_curve rmX5_curve_r (va_Pc [.ref h0, .int a0, .int a1, .int a2] (fun U => U.heap.size = sz ∧ va_P (dC, dI) vwCl [(h0, .inr (4, [.ref h0_held, .int t_size, .ref h0_survey])), (h0_held, .inl (k_t_held, 24, .inr (.inr (.inr (.inr t_held)))))] U.heap ∧ va_K (dC, dI) vwCl [(k_t_held, .object "PointRings$Curve")] U ∧ nw_all U ∧ va_D (fun _ => True) [(h0, .inr (4, [.ref h0_held, .int t_size, .ref h0_survey])), (h0_held, .inl (k_t_held, 24, .inr (.inr (.inr (.inr t_held)))))])) (va_Qi (fun (r : Int32) (u : Int32 × Int32 × Int32 × Int32 × Int32 × Int32 × Int32 × Int32 × Int32 × Int32 × Int32 × Int32 × Int32) => (r, u) = rr) (fun (u : Int32 × Int32 × Int32 × Int32 × Int32 × Int32 × Int32 × Int32 × Int32 × Int32 × Int32 × Int32 × Int32) t => match u with | (u0, u1, u2, u3, u4, u5, u6, u7, u8, u9, u10, u11, u12) => ∃ q39 : Nat, va_P (dC, dI) vwCl [(h0, .inr (4, [.ref h0_held, .int u0, .ref h0_survey])), (h0_held, .inl (k_t_held, 24, .inr (.inr (.inr (.inr (va_up t_held t_size.toNatClampNeg (some q39))))))), (q39, .inr (0, [.int u1, .int u2, .int u3, .int u4, .int u5, .int u6, .int u7, .int u8, .int u9, .int u10, .int u11, .int u12]))] t.heap ∧ va_K (dC, dI) vwCl [(k_t_held, .object "PointRings$Curve")] t ∧ va_D (va_A [(h0, .inr (4, [.ref h0_held, .int t_size, .ref h0_survey])), (h0_held, .inl (k_t_held, 24, .inr (.inr (.inr (.inr t_held)))))] sz) [(h0, .inr (4, [.ref h0_held, .int u0, .ref h0_survey])), (h0_held, .inl (k_t_held, 24, .inr (.inr (.inr (.inr (va_up t_held t_size.toNatClampNeg (some q39))))))), (q39, .inr (0, [.int u1, .int u2, .int u3, .int u4, .int u5, .int u6, .int u7, .int u8, .int u9, .int u10, .int u11, .int u12]))]) (va_A [(h0, .inr (4, [.ref h0_held, .int t_size, .ref h0_survey])), (h0_held, .inl (k_t_held, 24, .inr (.inr (.inr (.inr t_held)))))] sz)) 1 12 (va_A [(h0, .inr (4, [.ref h0_held, .int t_size, .ref h0_survey])), (h0_held, .inl (k_t_held, 24, .inr (.inr (.inr (.inr t_held)))))] sz) := by
  refine Met.ofW (cc := cX5_curve) (maxL := 4) (ret := (some .int)) (by decide) rfl ?_
  intro p e s m args below meth c s₁ B hml hv
  obtain ⟨rfl, hsz, hP, hK, hN, hD0⟩ := hv
  have hx := B.exec
  have hb := B.bytes
  have hr := B.returns
  have hts := atoms_spec (ws := wsX5_curve) B.pre
  have hown : s.vm.findClass RX5 = some m.cls := findClass_of_methodNamed B.named
  have hlocks := B.notSynchronized
  subst hsz
  have hD := hD0.self (sz := s.heap.size)
  generalize hAe : va_A [(h0, .inr (4, [.ref h0_held, .int t_size, .ref h0_survey])), (h0_held, .inl (k_t_held, 24, .inr (.inr (.inr (.inr t_held)))))] s.heap.size = A at hD ⊢
  have hA0 : ∀ q : Nat, s.heap.size ≤ q → A q := fun q h => by rw [← hAe]; exact Or.inr h
  have hS : va_S A s.heap s.heap [] := va_S.rf
  have hP : va_P (dC, dI) vwCl [(h0, .inr (4, [.ref h0_held, .int t_size, .ref h0_survey])), (h0_held, .inl (k_t_held, 24, .inr (.inr (.inr (.inr t_held)))))] s.heap := hP
  have hl := lv_entry ([.ref h0, .int a0, .int a1, .int a2]) (n := 4) (Nat.le_of_ble_eq_true rfl)
  rw [lg_entry_eq]
  generalize (lg_sl ([.ref h0, .int a0, .int a1, .int a2]) ++ List.replicate (4 - (lg_sl ([.ref h0, .int a0, .int a1, .int a2])).length) Slot.unset).toArray = ls at hl ⊢
  have hl : lv_has ls 4 [(0, .ref h0), (1, .int a0), (2, .int a1), (3, .int a2)] := hl
  dsimp only [mX5_curve] at h
  refine lv_iload_n hx hb dX5_curve_0 rfl (lv_at hl 1 rfl) ?_
  obtain ⟨r1, hr1, h⟩ := Option.bind_eq_some_iff.mp h
  refine vp_callSi (W.runS (As := [.int a0]) (rest := []) ⟨hx, hb, hml, hown, hts⟩ (ctX4_isFieldPrime l N  a0 r1 hr1) (va_cwS 1 hts gX5_curve_X4_isFieldPrime rfl rfl rfl (by decide +kernel) ⟨Nat.le_of_ble_eq_true rfl, Nat.le_of_ble_eq_true rfl⟩) preEq rfl rfl hl.1 rfl (lv_room (Nat.le_of_ble_eq_true rfl)) dX5_curve_1 ⟨Nat.le_of_ble_eq_true rfl, Nat.le_of_ble_eq_true rfl⟩) (fun q9 eq9 => ?_)
  subst q9
  refine lv_if_eq (tgt := 23) hx hb dX5_curve_4 (by decide) (fun c2 => ?_) (fun c2 => ?_)
  · replace h := (if_pos c2).symm.trans h
    refine lv_bipush (v := (-2)) hx hb dX5_curve_23 (by decide) ?_
    exact absurd (Option.some.inj h) (fun hh => nomatch hh)
  · replace h := (if_neg c2).symm.trans h
    refine lv_iload_n hx hb dX5_curve_7 rfl (lv_at hl 2 rfl) ?_
    refine lv_iload_n hx hb dX5_curve_8 rfl (lv_at hl 1 rfl) ?_
    obtain ⟨r3, hr3, h⟩ := Option.bind_eq_some_iff.mp h
    refine vp_callSi (W.runS (As := [.int a1, .int a0]) (rest := []) ⟨hx, hb, hml, hown, hts⟩ (ctX4_isBelow l N  a1 a0 r3 hr3) (va_cwS 2 hts gX5_curve_X4_isBelow rfl rfl rfl (by decide +kernel) ⟨Nat.le_of_ble_eq_true rfl, Nat.le_of_ble_eq_true rfl⟩) preEq rfl rfl hl.1 rfl (lv_room (Nat.le_of_ble_eq_true rfl)) dX5_curve_9 ⟨Nat.le_of_ble_eq_true rfl, Nat.le_of_ble_eq_true rfl⟩) (fun q9 eq9 => ?_)
    subst q9
    refine lv_if_eq (tgt := 23) hx hb dX5_curve_12 (by decide) (fun c4 => ?_) (fun c4 => ?_)
    · replace h := (if_pos c4).symm.trans h
      refine lv_bipush (v := (-2)) hx hb dX5_curve_23 (by decide) ?_
      exact absurd (Option.some.inj h) (fun hh => nomatch hh)
    · replace h := (if_neg c4).symm.trans h
      refine lv_iload_n hx hb dX5_curve_15 rfl (lv_at hl 3 rfl) ?_
      refine lv_iload_n hx hb dX5_curve_16 rfl (lv_at hl 1 rfl) ?_
      obtain ⟨r5, hr5, h⟩ := Option.bind_eq_some_iff.mp h
      refine vp_callSi (W.runS (As := [.int a2, .int a0]) (rest := []) ⟨hx, hb, hml, hown, hts⟩ (ctX4_isBelow l N  a2 a0 r5 hr5) (va_cwS 2 hts gX5_curve_X4_isBelow rfl rfl rfl (by decide +kernel) ⟨Nat.le_of_ble_eq_true rfl, Nat.le_of_ble_eq_true rfl⟩) preEq rfl rfl hl.1 rfl (lv_room (Nat.le_of_ble_eq_true rfl)) dX5_curve_17 ⟨Nat.le_of_ble_eq_true rfl, Nat.le_of_ble_eq_true rfl⟩) (fun q9 eq9 => ?_)
      subst q9
      refine lv_if_ne (tgt := 26) hx hb dX5_curve_20 (by decide) (fun c6 => ?_) (fun c6 => ?_)
      · replace h := (if_neg c6).symm.trans h
        refine lv_iload_n hx hb dX5_curve_26 rfl (lv_at hl 2 rfl) ?_
        refine lv_iload_n hx hb dX5_curve_27 rfl (lv_at hl 3 rfl) ?_
        refine lv_iload_n hx hb dX5_curve_28 rfl (lv_at hl 1 rfl) ?_
        obtain ⟨r7, hr7, h⟩ := Option.bind_eq_some_iff.mp h
        refine vp_callSi (W.runS (As := [.int a1, .int a2, .int a0]) (rest := []) ⟨hx, hb, hml, hown, hts⟩ (ctX4_cubicMark l N  a1 a2 a0 r7 hr7) (va_cwS 3 hts gX5_curve_X4_cubicMark rfl rfl rfl (by decide +kernel) ⟨Nat.le_of_ble_eq_true rfl, Nat.le_of_ble_eq_true rfl⟩) preEq rfl rfl hl.1 rfl (lv_room (Nat.le_of_ble_eq_true rfl)) dX5_curve_29 ⟨Nat.le_of_ble_eq_true rfl, Nat.le_of_ble_eq_true rfl⟩) (fun q9 eq9 => ?_)
        subst q9
        refine lv_if_ne (tgt := 38) hx hb dX5_curve_32 (by decide) (fun c8 => ?_) (fun c8 => ?_)
        · replace h := (if_neg c8).symm.trans h
          refine lv_aload_n hx hb dX5_curve_38 rfl (lv_at hl 0 rfl) ?_
          refine va_new (ci := 0) (fs := [.int 0, .int 0, .int 0, .int 0, .int 0, .int 0, .int 0, .int 0, .int 0, .int 0, .int 0, .int 0]) (C := RX0) (T := TX0) (N := 12) hx hb hts (by decide +kernel) tyX0 tyX0_ok hown (hts (.classLink RX5 9 RX0) (by decide +kernel)) (hts (.instantiable RX0 12) (by decide +kernel)) (hts (.initialized RX0) (by decide +kernel)) hK hP hD hS hA0 rfl (fun j hj => by rcases (show j = 0 ∨ j = 1 ∨ j = 2 ∨ j = 3 ∨ j = 4 ∨ j = 5 ∨ j = 6 ∨ j = 7 ∨ j = 8 ∨ j = 9 ∨ j = 10 ∨ j = 11 by omega) with rfl | rfl | rfl | rfl | rfl | rfl | rfl | rfl | rfl | rfl | rfl | rfl <;> rfl) (by decide +kernel) (by decide +kernel) dX5_curve_39 (fun q39 H hP hD hS => ?_)
          have hP : va_P (dC, dI) vwCl [(h0, .inr (4, [.ref h0_held, .int t_size, .ref h0_survey])), (h0_held, .inl (k_t_held, 24, .inr (.inr (.inr (.inr t_held))))), (q39, .inr (0, [.int 0, .int 0, .int 0, .int 0, .int 0, .int 0, .int 0, .int 0, .int 0, .int 0, .int 0, .int 0]))] H := hP
          have hD : va_D A [(h0, .inr (4, [.ref h0_held, .int t_size, .ref h0_survey])), (h0_held, .inl (k_t_held, 24, .inr (.inr (.inr (.inr t_held))))), (q39, .inr (0, [.int 0, .int 0, .int 0, .int 0, .int 0, .int 0, .int 0, .int 0, .int 0, .int 0, .int 0, .int 0]))] := hD
          refine lv_dup hx hb dX5_curve_42 rfl ?_
          refine lv_iload_n hx hb dX5_curve_43 rfl (lv_at hl 1 rfl) ?_
          refine lv_iload_n hx hb dX5_curve_44 rfl (lv_at hl 2 rfl) ?_
          refine lv_iload_n hx hb dX5_curve_45 rfl (lv_at hl 3 rfl) ?_
          obtain ⟨r9, hr9, h⟩ := Option.bind_eq_some_iff.mp h
          have hPc := hP.sub (ws' := [(q39, .inr (0, [.int 0, .int 0, .int 0, .int 0, .int 0, .int 0, .int 0, .int 0, .int 0, .int 0, .int 0, .int 0]))]) [2] rfl
          have hDc := hD.sub (ws' := [(q39, .inr (0, [.int 0, .int 0, .int 0, .int 0, .int 0, .int 0, .int 0, .int 0, .int 0, .int 0, .int 0, .int 0]))]) [2] (by decide) rfl
          have hKc := hK.sub (tys' := []) [] rfl
          have hFc := va_free (wc := [(q39, .inr (0, [.int 0, .int 0, .int 0, .int 0, .int 0, .int 0, .int 0, .int 0, .int 0, .int 0, .int 0, .int 0]))]) hD hS hA0 [2] rfl
          refine va_callv (va_runI (As := [.int a0, .int a1, .int a2]) (rest := [.ref q39, .ref h0]) ⟨hx, hb, hml, hown, hts⟩ (ctX0_init l N dC dI _ q39 0 0 0 0 0 0 0 0 0 0 0 0 a0 a1 a2 r9 hr9) (cwI 3 hts gX5_curve_X0_init rfl rfl rfl (hts (.initialized RX0) (by decide +kernel)) (hts (.methodLink RX5 40 yX0_init) (by decide +kernel)) (hts (.instanceMethod yX0_init) (by decide +kernel)) rfl (by decide +kernel) ⟨Nat.le_of_ble_eq_true rfl, Nat.le_of_ble_eq_true rfl⟩) ⟨fun a U g mk q => by obtain ⟨q0, q1, qP, qK, qN, qD⟩ := q; exact ⟨q0, q1, qP, va_K.moved (u := U) (U := U.calling g mk a) (Vm.Alike.refl U.vm) qK, nw_same (u := U) (U := U.calling g mk a) rfl qN, qD⟩, fun U hU hW => ⟨rfl, by rw [hU], by rw [hU]; exact hPc, va_K.moved hW.alike hKc, nw_warm hW hN, hDc.weaken (fun _ _ _ _ => trivial)⟩⟩ rfl rfl hl.1 rfl (lv_room (Nat.le_of_ble_eq_true rfl)) dX5_curve_46 ⟨Nat.le_of_ble_eq_true rfl, Nat.le_of_ble_eq_true rfl⟩) hS (fun q _ h => hFc q h) hFc (fun u t H1 locs ht hvm hw hB1 hz1 hk1 hS => ?_)
          obtain ⟨u10, u11, u12, u13, u14⟩ := u
          obtain ⟨hP1, hK1, hD1⟩ := hB1
          rw [ht] at hP1
          have hK1 := va_K.moved hvm.symm hK1
          subst hw
          try dsimp only at h
          obtain ⟨hP, hD⟩ := va_join (wr := [(h0, .inr (4, [.ref h0_held, .int t_size, .ref h0_survey])), (h0_held, .inl (k_t_held, 24, .inr (.inr (.inr (.inr t_held)))))]) (w1 := [(q39, .inr (0, [.int u10, .int u11, .int u12, .int 0, .int 0, .int 0, .int 0, .int 0, .int 0, .int 0, .int u13, .int u14]))]) hP hD [2] [0, 1] rfl rfl (by decide) (by decide) hk1 hFc hP1 hD1
          generalize H1 = H at hP hS ⊢
          have hP := hP.sub (ws' := [(h0, .inr (4, [.ref h0_held, .int t_size, .ref h0_survey])), (h0_held, .inl (k_t_held, 24, .inr (.inr (.inr (.inr t_held))))), (q39, .inr (0, [.int u10, .int u11, .int u12, .int 0, .int 0, .int 0, .int 0, .int 0, .int 0, .int 0, .int u13, .int u14]))]) [0, 1, 2] rfl
          have hD := hD.sub (ws' := [(h0, .inr (4, [.ref h0_held, .int t_size, .ref h0_survey])), (h0_held, .inl (k_t_held, 24, .inr (.inr (.inr (.inr t_held))))), (q39, .inr (0, [.int u10, .int u11, .int u12, .int 0, .int 0, .int 0, .int 0, .int 0, .int 0, .int 0, .int u13, .int u14]))]) [0, 1, 2] (by decide) rfl
          by_cases c15 : t_size < 24
          · replace h := (if_pos c15).symm.trans h
            obtain ⟨r16, hr16, h⟩ := Option.bind_eq_some_iff.mp h
            have hPc := hP.sub (ws' := [(h0, .inr (4, [.ref h0_held, .int t_size, .ref h0_survey])), (h0_held, .inl (k_t_held, 24, .inr (.inr (.inr (.inr t_held))))), (q39, .inr (0, [.int u10, .int u11, .int u12, .int 0, .int 0, .int 0, .int 0, .int 0, .int 0, .int 0, .int u13, .int u14]))]) [0, 1, 2] rfl
            have hDc := hD.sub (ws' := [(h0, .inr (4, [.ref h0_held, .int t_size, .ref h0_survey])), (h0_held, .inl (k_t_held, 24, .inr (.inr (.inr (.inr t_held))))), (q39, .inr (0, [.int u10, .int u11, .int u12, .int 0, .int 0, .int 0, .int 0, .int 0, .int 0, .int 0, .int u13, .int u14]))]) [0, 1, 2] (by decide) rfl
            have hKc := hK.sub (tys' := [(k_t_held, .object "PointRings$Curve")]) [0] rfl
            have hFc := va_free (wc := [(h0, .inr (4, [.ref h0_held, .int t_size, .ref h0_survey])), (h0_held, .inl (k_t_held, 24, .inr (.inr (.inr (.inr t_held))))), (q39, .inr (0, [.int u10, .int u11, .int u12, .int 0, .int 0, .int 0, .int 0, .int 0, .int 0, .int 0, .int u13, .int u14]))]) hD hS hA0 [0, 1, 2] rfl
            refine va_calli (va_runV (As := [.ref q39]) (rest := []) ⟨hx, hb, hml, hown, hts⟩ (ctX5_keep_k l N dC dI _ h0 h0_held q39 h0_survey k_t_held t_size t_held u10 u11 u12 0 0 0 0 0 0 0 u13 u14 r16 hr16 c15) (cwV 1 hts gX5_curve_X5_keep rfl rfl rfl (by decide +kernel) ⟨Nat.le_of_ble_eq_true rfl, Nat.le_of_ble_eq_true rfl⟩) ⟨fun a U g mk q => by obtain ⟨q0, q1, qP, qK, qN, qD⟩ := q; exact ⟨q0, q1, qP, va_K.moved (u := U) (U := U.calling g mk a) (Vm.Alike.refl U.vm) qK, nw_same (u := U) (U := U.calling g mk a) rfl qN, qD⟩, va_recv hKc hPc (ci := 4) (q0 := 0) rfl rfl, fun U hU hW => ⟨rfl, by rw [hU], by rw [hU]; exact hPc, va_K.moved hW.alike hKc, nw_warm hW hN, hDc.weaken (fun _ _ _ _ => trivial)⟩⟩ rfl rfl hl.1 rfl (lv_room (Nat.le_of_ble_eq_true rfl)) dX5_curve_49 ⟨Nat.le_of_ble_eq_true rfl, Nat.le_of_ble_eq_true rfl⟩) hS (fun q _ h => hFc q h) hFc (fun rz u t H1 locs ht hvm hw hB1 hz1 hk1 hS => ?_)
            obtain ⟨u17, rfl⟩ : ∃ z, z = u := ⟨_, rfl⟩
            obtain ⟨hP1, hK1, hD1⟩ := hB1
            rw [ht] at hP1
            have hK1 := va_K.moved hvm.symm hK1
            obtain ⟨r18, rfl⟩ : ∃ z, z = rz := ⟨_, rfl⟩
            subst hw
            try dsimp only at h
            obtain ⟨hP, hD⟩ := va_join (wr := []) (w1 := [(h0, .inr (4, [.ref h0_held, .int u17, .ref h0_survey])), (h0_held, .inl (k_t_held, 24, .inr (.inr (.inr (.inr (va_up t_held t_size.toNatClampNeg (some q39))))))), (q39, .inr (0, [.int u10, .int u11, .int u12, .int 0, .int 0, .int 0, .int 0, .int 0, .int 0, .int 0, .int u13, .int u14]))]) hP hD [0, 1, 2] [] rfl rfl (by decide) (by decide) hk1 hFc hP1 hD1
            generalize H1 = H at hP hS ⊢
            have hP := hP.sub (ws' := [(h0, .inr (4, [.ref h0_held, .int u17, .ref h0_survey])), (h0_held, .inl (k_t_held, 24, .inr (.inr (.inr (.inr (va_up t_held t_size.toNatClampNeg (some q39))))))), (q39, .inr (0, [.int u10, .int u11, .int u12, .int 0, .int 0, .int 0, .int 0, .int 0, .int 0, .int 0, .int u13, .int u14]))]) [0, 1, 2] rfl
            have hD := hD.sub (ws' := [(h0, .inr (4, [.ref h0_held, .int u17, .ref h0_survey])), (h0_held, .inl (k_t_held, 24, .inr (.inr (.inr (.inr (va_up t_held t_size.toNatClampNeg (some q39))))))), (q39, .inr (0, [.int u10, .int u11, .int u12, .int 0, .int 0, .int 0, .int 0, .int 0, .int 0, .int 0, .int u13, .int u14]))]) [0, 1, 2] (by decide) rfl
            have hv : (r18, u17, u10, u11, u12, 0, 0, 0, 0, 0, 0, 0, u13, u14) = rr := Sum.inr.inj (Option.some.inj h)
            have hP9 := hP.sub (ws' := [(h0, .inr (4, [.ref h0_held, .int u17, .ref h0_survey])), (h0_held, .inl (k_t_held, 24, .inr (.inr (.inr (.inr (va_up t_held t_size.toNatClampNeg (some q39))))))), (q39, .inr (0, [.int u10, .int u11, .int u12, .int 0, .int 0, .int 0, .int 0, .int 0, .int 0, .int 0, .int u13, .int u14]))]) [0, 1, 2] rfl
            have hD9 := hD.sub (ws' := [(h0, .inr (4, [.ref h0_held, .int u17, .ref h0_survey])), (h0_held, .inl (k_t_held, 24, .inr (.inr (.inr (.inr (va_up t_held t_size.toNatClampNeg (some q39))))))), (q39, .inr (0, [.int u10, .int u11, .int u12, .int 0, .int 0, .int 0, .int 0, .int 0, .int 0, .int 0, .int u13, .int u14]))]) [0, 1, 2] (by decide) rfl
            have hK9 := hK.sub (tys' := [(k_t_held, .object "PointRings$Curve")]) [0] rfl
            refine W.widen (k := 1) (n := 12) (by decide +kernel) (by decide +kernel) ?_
            exact W.iret (v := r18) hx hb hr (fun t ht hW => ⟨⟨r18, (u17, u10, u11, u12, 0, 0, 0, 0, 0, 0, 0, u13, u14), rfl, hv, q39, by rw [ht]; exact hP9, va_K.moved hW.alike hK9, hD9⟩, hS.F ht⟩) hS.2.2 dX5_curve_52
          · replace h := (if_neg c15).symm.trans h
            have hPc := hP.sub (ws' := [(h0, .inr (4, [.ref h0_held, .int t_size, .ref h0_survey])), (h0_held, .inl (k_t_held, 24, .inr (.inr (.inr (.inr t_held)))))]) [0, 1] rfl
            have hKc := hK.sub (tys' := [(k_t_held, .object "PointRings$Curve")]) [0] rfl
            refine vp_callSi (W.runV (As := [.ref q39]) (rest := []) ⟨hx, hb, hml, hown, hts⟩ (ctX5_keep_f l N dC dI  h0 h0_held h0_survey q39 k_t_held t_size t_held (-4) rfl c15) (cwV 1 hts gX5_curve_X5_keep rfl rfl rfl (by decide +kernel) ⟨Nat.le_of_ble_eq_true rfl, Nat.le_of_ble_eq_true rfl⟩) ⟨fun a U g mk q => by obtain ⟨q0, qP, qK, qN⟩ := q; exact ⟨q0, qP, va_K.moved (u := U) (U := U.calling g mk a) (Vm.Alike.refl U.vm) qK, nw_same (u := U) (U := U.calling g mk a) rfl qN⟩, va_recv hKc hPc (ci := 4) (q0 := 0) rfl rfl, fun U hU hW => ⟨rfl, by rw [hU]; exact hPc, va_K.moved hW.alike hKc, nw_warm hW hN⟩⟩ rfl rfl hl.1 rfl (lv_room (Nat.le_of_ble_eq_true rfl)) dX5_curve_49 ⟨Nat.le_of_ble_eq_true rfl, Nat.le_of_ble_eq_true rfl⟩) (fun q9 eq9 => ?_)
            subst q9
            exact absurd (Option.some.inj h) (fun hh => nomatch hh)
        · replace h := (if_pos c8).symm.trans h
          refine lv_bipush (v := (-3)) hx hb dX5_curve_35 (by decide) ?_
          exact absurd (Option.some.inj h) (fun hh => nomatch hh)
      · replace h := (if_pos c6).symm.trans h
        refine lv_bipush (v := (-2)) hx hb dX5_curve_23 (by decide) ?_
        exact absurd (Option.some.inj h) (fun hh => nomatch hh)
