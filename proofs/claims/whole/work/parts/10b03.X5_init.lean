def mX5_init (N : Nat)  : Option (Int32 × (Nat → Option Nat) × Int32 × (Nat → Int32) × Int32 × Int32 × Int32 × (Nat → Int32) × (Nat → Int32) × (Nat → Int32)) := (mX3_init N ).bind (fun r1 => match r1 with | (u2, f3, u4, u5, u6, f7, f8, f9) => some (0, (fun _ => none), u2, f3, u4, u5, u6, f7, f8, f9))
abbrev rmX5_init : Room := { frames := 3, cells := 8, slots := 20181, locals := 52 }
set_option maxHeartbeats 4000000 in
set_option maxRecDepth 100000 in
theorem ctX5_init (l : Launch) (N : Nat) (dC : Nat → ClassId) (dI : Nat → Nat → Nat) (sz : Nat) (h0 : Nat) (t_size : Int32) (rr : Int32 × (Nat → Option Nat) × Int32 × (Nat → Int32) × Int32 × Int32 × Int32 × (Nat → Int32) × (Nat → Int32) × (Nat → Int32)) (h : mX5_init N  = some rr) : Met l yX5_init wsX5_init rmX5_init (va_Pc [.ref h0] (fun U => U.heap.size = sz ∧ va_P (dC, dI) vwCl [(h0, .inr (4, [.null, .int t_size, .null]))] U.heap ∧ va_K (dC, dI) vwCl [] U ∧ nw_all U ∧ va_D (fun _ => True) [(h0, .inr (4, [.null, .int t_size, .null]))])) (va_Qv (fun (u : Int32 × (Nat → Option Nat) × Int32 × (Nat → Int32) × Int32 × Int32 × Int32 × (Nat → Int32) × (Nat → Int32) × (Nat → Int32)) => u = rr) (fun (u : Int32 × (Nat → Option Nat) × Int32 × (Nat → Int32) × Int32 × Int32 × Int32 × (Nat → Int32) × (Nat → Int32) × (Nat → Int32)) t => match u with | (u0, u1, u2, u3, u4, u5, u6, u7, u8, u9) => ∃ q7 : Nat, ∃ k7 : ClassId, ∃ q19 : Nat, ∃ q5_23 : Nat, ∃ q8_9_23 : Nat, ∃ k8_9_23 : ClassId, ∃ q16_23 : Nat, ∃ q8_20_23 : Nat, ∃ k8_20_23 : ClassId, ∃ q17_20_23 : Nat, ∃ k17_20_23 : ClassId, ∃ q28_23 : Nat, ∃ k28_23 : ClassId, va_P (dC, dI) vwCl [(h0, .inr (4, [.ref q7, .int u0, .ref q19])), (q7, .inl (k7, 24, .inr (.inr (.inr (.inr u1))))), (q19, .inr (3, [.ref q5_23, .ref q16_23, .ref q28_23])), (q5_23, .inr (1, [.ref q8_9_23, .int u2])), (q8_9_23, .inl (k8_9_23, 10007, .inl u3)), (q16_23, .inr (2, [.ref q8_20_23, .ref q17_20_23, .null, .int u4, .int u5, .int u6])), (q8_20_23, .inl (k8_20_23, 10007, .inl u7)), (q17_20_23, .inl (k17_20_23, 128, .inl u8)), (q28_23, .inl (k28_23, 4, .inl u9))] t.heap ∧ va_K (dC, dI) vwCl [(k7, .object "PointRings$Curve"), (k8_9_23, .int), (k8_20_23, .int), (k17_20_23, .int), (k28_23, .int)] t ∧ va_D (va_A [(h0, .inr (4, [.null, .int t_size, .null]))] sz) [(h0, .inr (4, [.ref q7, .int u0, .ref q19])), (q7, .inl (k7, 24, .inr (.inr (.inr (.inr u1))))), (q19, .inr (3, [.ref q5_23, .ref q16_23, .ref q28_23])), (q5_23, .inr (1, [.ref q8_9_23, .int u2])), (q8_9_23, .inl (k8_9_23, 10007, .inl u3)), (q16_23, .inr (2, [.ref q8_20_23, .ref q17_20_23, .null, .int u4, .int u5, .int u6])), (q8_20_23, .inl (k8_20_23, 10007, .inl u7)), (q17_20_23, .inl (k17_20_23, 128, .inl u8)), (q28_23, .inl (k28_23, 4, .inl u9))]) (va_A [(h0, .inr (4, [.null, .int t_size, .null]))] sz)) 8 20181 (va_A [(h0, .inr (4, [.null, .int t_size, .null]))] sz) := by
  refine Met.ofW (cc := cX5_init) (maxL := 1) (ret := none) (by decide) rfl ?_
  intro p e s m args below meth c s₁ B hml hv
  obtain ⟨rfl, hsz, hP, hK, hN, hD0⟩ := hv
  have hx := B.exec
  have hb := B.bytes
  have hr := B.returns
  have hts := atoms_spec (ws := wsX5_init) B.pre
  have hown : s.vm.findClass RX5 = some m.cls := findClass_of_methodNamed B.named
  have hlocks := B.notSynchronized
  have hin : meth.name = "<init>" := (name_of_methodNamed B.named B.method).1
  subst hsz
  have hD := hD0.self (sz := s.heap.size)
  generalize hAe : va_A [(h0, .inr (4, [.null, .int t_size, .null]))] s.heap.size = A at hD ⊢
  have hA0 : ∀ q : Nat, s.heap.size ≤ q → A q := fun q h => by rw [← hAe]; exact Or.inr h
  have hS : va_S A s.heap s.heap [] := va_S.rf
  have hP : va_P (dC, dI) vwCl [(h0, .inr (4, [.null, .int t_size, .null]))] s.heap := hP
  have hl := lv_entry ([.ref h0]) (n := 1) (Nat.le_of_ble_eq_true rfl)
  rw [lg_entry_eq]
  generalize (lg_sl ([.ref h0]) ++ List.replicate (1 - (lg_sl ([.ref h0])).length) Slot.unset).toArray = ls at hl ⊢
  have hl : lv_has ls 1 [(0, .ref h0)] := hl
  dsimp only [mX5_init] at h
  refine lv_aload_n hx hb dX5_init_0 rfl (lv_at hl 0 rfl) ?_
  refine W.objInit hx hb hown (hts (.methodLink RX5 3 objectInit) (by decide +kernel)) (hts (.instanceMethod objectInit) (by decide +kernel)) (hts (.code objectInit ⟨#[0xb1]⟩ 1 none) (by decide +kernel)) rfl (by rw [hml]; exact hl.1) rfl dX5_init_1 (Nat.le_of_ble_eq_true rfl) (Nat.le_of_ble_eq_true rfl) ?_
  refine W.eq (g2 := F0 m 4 ls []) rfl ?_
  refine lv_aload_n hx hb dX5_init_4 rfl (lv_at hl 0 rfl) ?_
  refine lv_bipush (v := 24) hx hb dX5_init_5 (by decide) ?_
  refine va_newq (N' := 24) hx hb hown (hts (.classLink RX5 9 RX0) (by decide +kernel)) (nw_ao hN) hK hP hD hS hA0 (by decide +kernel) (by decide +kernel) (by decide +kernel) (by decide +kernel) (by decide +kernel) dX5_init_7 (fun q7 k7 H hK hP hD hS => ?_)
  have hP : va_P (dC, dI) vwCl [(h0, .inr (4, [.null, .int t_size, .null])), (q7, .inl (k7, 24, .inr (.inr (.inr (.inr (fun _ => none))))))] H := hP
  have hD : va_D A [(h0, .inr (4, [.null, .int t_size, .null])), (q7, .inl (k7, 24, .inr (.inr (.inr (.inr (fun _ => none))))))] := hD
  have hK : va_K (dC, dI) vwCl [(k7, .object "PointRings$Curve")] s := hK
  refine va_putF (D := (dC, dI)) (ci := 4) (v := .ref q7) (ty := .array (.object "PointRings$Curve")) (C := RX5) (T := TX5) (N := 3) hx hb hts (by decide +kernel) tyX5 tyX5_ok nmX5 hown hK hP hD hS 0 rfl rfl 0 (by decide) (hts (.fieldLink RX5 11 "PointRings" "held" "[LPointRings$Curve;") (by decide +kernel)) (fun _ h9 => h9) rfl hin rfl (by decide +kernel) rfl rfl (Nat.le_of_ble_eq_true rfl) dX5_init_10 (fun H locs hP hD hS => ?_)
  have hP : va_P (dC, dI) vwCl [(h0, .inr (4, [.ref q7, .int t_size, .null])), (q7, .inl (k7, 24, .inr (.inr (.inr (.inr (fun _ => none))))))] H := hP
  have hD : va_D A [(h0, .inr (4, [.ref q7, .int t_size, .null])), (q7, .inl (k7, 24, .inr (.inr (.inr (.inr (fun _ => none))))))] := hD
  refine lv_aload_n hx hb dX5_init_13 rfl (lv_at hl 0 rfl) ?_
  refine lv_iconst (v := 0) hx hb dX5_init_14 (by decide) ?_
  refine va_put (D := (dC, dI)) (ci := 4) (v := .int 0) (ty := .int) (C := RX5) (T := TX5) (N := 3) hx hb hts (by decide +kernel) tyX5 tyX5_ok nmX5 hown hK hP hD hS 0 rfl rfl 1 (by decide) (hts (.fieldLink RX5 15 "PointRings" "size" "I") (by decide +kernel)) (fun _ h9 => h9) rfl (by decide +kernel) rfl rfl (Nat.le_of_ble_eq_true rfl) dX5_init_15 (fun H locs hP hD hS => ?_)
  have hP : va_P (dC, dI) vwCl [(h0, .inr (4, [.ref q7, .int 0, .null])), (q7, .inl (k7, 24, .inr (.inr (.inr (.inr (fun _ => none))))))] H := hP
  have hD : va_D A [(h0, .inr (4, [.ref q7, .int 0, .null])), (q7, .inl (k7, 24, .inr (.inr (.inr (.inr (fun _ => none))))))] := hD
  refine lv_aload_n hx hb dX5_init_18 rfl (lv_at hl 0 rfl) ?_
  refine va_new (ci := 3) (fs := [.null, .null, .null]) (C := RX3) (T := TX3) (N := 3) hx hb hts (by decide +kernel) tyX3 tyX3_ok hown (hts (.classLink RX5 19 RX3) (by decide +kernel)) (hts (.instantiable RX3 3) (by decide +kernel)) (hts (.initialized RX3) (by decide +kernel)) hK hP hD hS hA0 rfl (fun j hj => by rcases (show j = 0 ∨ j = 1 ∨ j = 2 by omega) with rfl | rfl | rfl <;> rfl) (by decide +kernel) (by decide +kernel) dX5_init_19 (fun q19 H hP hD hS => ?_)
  have hP : va_P (dC, dI) vwCl [(h0, .inr (4, [.ref q7, .int 0, .null])), (q7, .inl (k7, 24, .inr (.inr (.inr (.inr (fun _ => none)))))), (q19, .inr (3, [.null, .null, .null]))] H := hP
  have hD : va_D A [(h0, .inr (4, [.ref q7, .int 0, .null])), (q7, .inl (k7, 24, .inr (.inr (.inr (.inr (fun _ => none)))))), (q19, .inr (3, [.null, .null, .null]))] := hD
  refine lv_dup hx hb dX5_init_22 rfl ?_
  obtain ⟨r1, hr1, h⟩ := Option.bind_eq_some_iff.mp h
  have hPc := hP.sub (ws' := [(q19, .inr (3, [.null, .null, .null]))]) [2] rfl
  have hDc := hD.sub (ws' := [(q19, .inr (3, [.null, .null, .null]))]) [2] (by decide) rfl
  have hKc := hK.sub (tys' := []) [] rfl
  have hFc := va_free (wc := [(q19, .inr (3, [.null, .null, .null]))]) hD hS hA0 [2] rfl
  refine va_callv (va_runI (As := []) (rest := [.ref q19, .ref h0]) ⟨hx, hb, hml, hown, hts⟩ (ctX3_init l N dC dI _ q19 r1 hr1) (cwI 0 hts gX5_init_X3_init rfl rfl rfl (hts (.initialized RX3) (by decide +kernel)) (hts (.methodLink RX5 21 yX3_init) (by decide +kernel)) (hts (.instanceMethod yX3_init) (by decide +kernel)) rfl (by decide +kernel) ⟨Nat.le_of_ble_eq_true rfl, Nat.le_of_ble_eq_true rfl⟩) ⟨fun a U g mk q => by obtain ⟨q0, q1, qP, qK, qN, qD⟩ := q; exact ⟨q0, q1, qP, va_K.moved (u := U) (U := U.calling g mk a) (Vm.Alike.refl U.vm) qK, nw_same (u := U) (U := U.calling g mk a) rfl qN, qD⟩, fun U hU hW => ⟨rfl, by rw [hU], by rw [hU]; exact hPc, va_K.moved hW.alike hKc, nw_warm hW hN, hDc.weaken (fun _ _ _ _ => trivial)⟩⟩ rfl rfl hl.1 rfl (lv_room (Nat.le_of_ble_eq_true rfl)) dX5_init_23 ⟨by decide +kernel, by decide +kernel⟩) hS (fun q _ h => hFc q h) hFc (fun u t H1 locs ht hvm hw hB1 hz1 hk1 hS => ?_)
  obtain ⟨u2, f3, u4, u5, u6, f7, f8, f9⟩ := u
  obtain ⟨q5_23, q8_9_23, k8_9_23, q16_23, q8_20_23, k8_20_23, q17_20_23, k17_20_23, q28_23, k28_23, hP1, hK1, hD1⟩ := hB1
  rw [ht] at hP1
  have hK1 := va_K.moved hvm.symm hK1
  subst hw
  try dsimp only at h
  obtain ⟨hP, hD⟩ := va_join (wr := [(h0, .inr (4, [.ref q7, .int 0, .null])), (q7, .inl (k7, 24, .inr (.inr (.inr (.inr (fun _ => none))))))]) (w1 := [(q19, .inr (3, [.ref q5_23, .ref q16_23, .ref q28_23])), (q5_23, .inr (1, [.ref q8_9_23, .int u2])), (q8_9_23, .inl (k8_9_23, 10007, .inl f3)), (q16_23, .inr (2, [.ref q8_20_23, .ref q17_20_23, .null, .int u4, .int u5, .int u6])), (q8_20_23, .inl (k8_20_23, 10007, .inl f7)), (q17_20_23, .inl (k17_20_23, 128, .inl f8)), (q28_23, .inl (k28_23, 4, .inl f9))]) hP hD [2] [0, 1] rfl rfl (by decide) (by decide) hk1 hFc hP1 hD1
  generalize H1 = H at hP hS ⊢
  have hP := hP.sub (ws' := [(h0, .inr (4, [.ref q7, .int 0, .null])), (q7, .inl (k7, 24, .inr (.inr (.inr (.inr (fun _ => none)))))), (q19, .inr (3, [.ref q5_23, .ref q16_23, .ref q28_23])), (q5_23, .inr (1, [.ref q8_9_23, .int u2])), (q8_9_23, .inl (k8_9_23, 10007, .inl f3)), (q16_23, .inr (2, [.ref q8_20_23, .ref q17_20_23, .null, .int u4, .int u5, .int u6])), (q8_20_23, .inl (k8_20_23, 10007, .inl f7)), (q17_20_23, .inl (k17_20_23, 128, .inl f8)), (q28_23, .inl (k28_23, 4, .inl f9))]) [0, 1, 2, 3, 4, 5, 6, 7, 8] rfl
  have hD := hD.sub (ws' := [(h0, .inr (4, [.ref q7, .int 0, .null])), (q7, .inl (k7, 24, .inr (.inr (.inr (.inr (fun _ => none)))))), (q19, .inr (3, [.ref q5_23, .ref q16_23, .ref q28_23])), (q5_23, .inr (1, [.ref q8_9_23, .int u2])), (q8_9_23, .inl (k8_9_23, 10007, .inl f3)), (q16_23, .inr (2, [.ref q8_20_23, .ref q17_20_23, .null, .int u4, .int u5, .int u6])), (q8_20_23, .inl (k8_20_23, 10007, .inl f7)), (q17_20_23, .inl (k17_20_23, 128, .inl f8)), (q28_23, .inl (k28_23, 4, .inl f9))]) [0, 1, 2, 3, 4, 5, 6, 7, 8] (by decide) rfl
  have hK := (hK.app hK1).sub (tys' := [(k7, .object "PointRings$Curve"), (k8_9_23, .int), (k8_20_23, .int), (k17_20_23, .int), (k28_23, .int)]) [0, 1, 2, 3, 4] rfl
  refine va_putF (D := (dC, dI)) (ci := 4) (v := .ref q19) (ty := .object "PointRings$Survey") (C := RX5) (T := TX5) (N := 3) hx hb hts (by decide +kernel) tyX5 tyX5_ok nmX5 hown hK hP hD hS 0 rfl rfl 2 (by decide) (hts (.fieldLink RX5 22 "PointRings" "survey" "LPointRings$Survey;") (by decide +kernel)) (fun _ h9 => h9) rfl hin rfl (by decide +kernel) rfl rfl (Nat.le_of_ble_eq_true rfl) dX5_init_26 (fun H locs hP hD hS => ?_)
  have hP : va_P (dC, dI) vwCl [(h0, .inr (4, [.ref q7, .int 0, .ref q19])), (q7, .inl (k7, 24, .inr (.inr (.inr (.inr (fun _ => none)))))), (q19, .inr (3, [.ref q5_23, .ref q16_23, .ref q28_23])), (q5_23, .inr (1, [.ref q8_9_23, .int u2])), (q8_9_23, .inl (k8_9_23, 10007, .inl f3)), (q16_23, .inr (2, [.ref q8_20_23, .ref q17_20_23, .null, .int u4, .int u5, .int u6])), (q8_20_23, .inl (k8_20_23, 10007, .inl f7)), (q17_20_23, .inl (k17_20_23, 128, .inl f8)), (q28_23, .inl (k28_23, 4, .inl f9))] H := hP
  have hD : va_D A [(h0, .inr (4, [.ref q7, .int 0, .ref q19])), (q7, .inl (k7, 24, .inr (.inr (.inr (.inr (fun _ => none)))))), (q19, .inr (3, [.ref q5_23, .ref q16_23, .ref q28_23])), (q5_23, .inr (1, [.ref q8_9_23, .int u2])), (q8_9_23, .inl (k8_9_23, 10007, .inl f3)), (q16_23, .inr (2, [.ref q8_20_23, .ref q17_20_23, .null, .int u4, .int u5, .int u6])), (q8_20_23, .inl (k8_20_23, 10007, .inl f7)), (q17_20_23, .inl (k17_20_23, 128, .inl f8)), (q28_23, .inl (k28_23, 4, .inl f9))] := hD
  have hv : (0, (fun _ => none), u2, f3, u4, u5, u6, f7, f8, f9) = rr := Option.some.inj h
  have hP9 := hP.sub (ws' := [(h0, .inr (4, [.ref q7, .int 0, .ref q19])), (q7, .inl (k7, 24, .inr (.inr (.inr (.inr (fun _ => none)))))), (q19, .inr (3, [.ref q5_23, .ref q16_23, .ref q28_23])), (q5_23, .inr (1, [.ref q8_9_23, .int u2])), (q8_9_23, .inl (k8_9_23, 10007, .inl f3)), (q16_23, .inr (2, [.ref q8_20_23, .ref q17_20_23, .null, .int u4, .int u5, .int u6])), (q8_20_23, .inl (k8_20_23, 10007, .inl f7)), (q17_20_23, .inl (k17_20_23, 128, .inl f8)), (q28_23, .inl (k28_23, 4, .inl f9))]) [0, 1, 2, 3, 4, 5, 6, 7, 8] rfl
  have hD9 := hD.sub (ws' := [(h0, .inr (4, [.ref q7, .int 0, .ref q19])), (q7, .inl (k7, 24, .inr (.inr (.inr (.inr (fun _ => none)))))), (q19, .inr (3, [.ref q5_23, .ref q16_23, .ref q28_23])), (q5_23, .inr (1, [.ref q8_9_23, .int u2])), (q8_9_23, .inl (k8_9_23, 10007, .inl f3)), (q16_23, .inr (2, [.ref q8_20_23, .ref q17_20_23, .null, .int u4, .int u5, .int u6])), (q8_20_23, .inl (k8_20_23, 10007, .inl f7)), (q17_20_23, .inl (k17_20_23, 128, .inl f8)), (q28_23, .inl (k28_23, 4, .inl f9))]) [0, 1, 2, 3, 4, 5, 6, 7, 8] (by decide) rfl
  have hK9 := hK.sub (tys' := [(k7, .object "PointRings$Curve"), (k8_9_23, .int), (k8_20_23, .int), (k17_20_23, .int), (k28_23, .int)]) [0, 1, 2, 3, 4] rfl
  refine W.widen (k := 8) (n := 20181) (by decide +kernel) (by decide +kernel) ?_
  exact W.vret hx hb hr (fun t ht hW => ⟨⟨(0, (fun _ => none), u2, f3, u4, u5, u6, f7, f8, f9), rfl, hv, q7, k7, q19, q5_23, q8_9_23, k8_9_23, q16_23, q8_20_23, k8_20_23, q17_20_23, k17_20_23, q28_23, k28_23, by rw [ht]; exact hP9, va_K.moved hW.alike hK9, hD9⟩, hS.F ht⟩) hS.2.2 dX5_init_29
