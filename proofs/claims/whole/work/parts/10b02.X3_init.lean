def mX3_init (N : Nat)  : Option (Int32 × (Nat → Int32) × Int32 × Int32 × Int32 × (Nat → Int32) × (Nat → Int32) × (Nat → Int32)) := (mX1_init N ).bind (fun r1 => match r1 with | (u2, f3) => (mX2_init N ).bind (fun r4 => match r4 with | (u5, u6, f7, f8) => some (u2, f3, u5, 0, u6, f7, f8, (fun _ => 0))))
abbrev rmX3_init : Room := { frames := 2, cells := 6, slots := 20154, locals := 32 }
set_option maxHeartbeats 4000000 in
set_option maxRecDepth 100000 in
theorem ctX3_init (l : Launch) (N : Nat) (dC : Nat → ClassId) (dI : Nat → Nat → Nat) (sz : Nat) (h0 : Nat) (rr : Int32 × (Nat → Int32) × Int32 × Int32 × Int32 × (Nat → Int32) × (Nat → Int32) × (Nat → Int32)) (h : mX3_init N  = some rr) : Met l yX3_init wsX3_init rmX3_init (va_Pc [.ref h0] (fun U => U.heap.size = sz ∧ va_P (dC, dI) vwCl [(h0, .inr (3, [.null, .null, .null]))] U.heap ∧ va_K (dC, dI) vwCl [] U ∧ nw_all U ∧ va_D (fun _ => True) [(h0, .inr (3, [.null, .null, .null]))])) (va_Qv (fun (u : Int32 × (Nat → Int32) × Int32 × Int32 × Int32 × (Nat → Int32) × (Nat → Int32) × (Nat → Int32)) => u = rr) (fun (u : Int32 × (Nat → Int32) × Int32 × Int32 × Int32 × (Nat → Int32) × (Nat → Int32) × (Nat → Int32)) t => match u with | (u0, u1, u2, u3, u4, u5, u6, u7) => ∃ q5 : Nat, ∃ q8_9 : Nat, ∃ k8_9 : ClassId, ∃ q16 : Nat, ∃ q8_20 : Nat, ∃ k8_20 : ClassId, ∃ q17_20 : Nat, ∃ k17_20 : ClassId, ∃ q28 : Nat, ∃ k28 : ClassId, va_P (dC, dI) vwCl [(h0, .inr (3, [.ref q5, .ref q16, .ref q28])), (q5, .inr (1, [.ref q8_9, .int u0])), (q8_9, .inl (k8_9, 10007, .inl u1)), (q16, .inr (2, [.ref q8_20, .ref q17_20, .null, .int u2, .int u3, .int u4])), (q8_20, .inl (k8_20, 10007, .inl u5)), (q17_20, .inl (k17_20, 128, .inl u6)), (q28, .inl (k28, 4, .inl u7))] t.heap ∧ va_K (dC, dI) vwCl [(k8_9, .int), (k8_20, .int), (k17_20, .int), (k28, .int)] t ∧ va_D (va_A [(h0, .inr (3, [.null, .null, .null]))] sz) [(h0, .inr (3, [.ref q5, .ref q16, .ref q28])), (q5, .inr (1, [.ref q8_9, .int u0])), (q8_9, .inl (k8_9, 10007, .inl u1)), (q16, .inr (2, [.ref q8_20, .ref q17_20, .null, .int u2, .int u3, .int u4])), (q8_20, .inl (k8_20, 10007, .inl u5)), (q17_20, .inl (k17_20, 128, .inl u6)), (q28, .inl (k28, 4, .inl u7))]) (va_A [(h0, .inr (3, [.null, .null, .null]))] sz)) 6 20154 (va_A [(h0, .inr (3, [.null, .null, .null]))] sz) := by
  refine Met.ofW (cc := cX3_init) (maxL := 1) (ret := none) (by decide) rfl ?_
  intro p e s m args below meth c s₁ B hml hv
  obtain ⟨rfl, hsz, hP, hK, hN, hD0⟩ := hv
  have hx := B.exec
  have hb := B.bytes
  have hr := B.returns
  have hts := atoms_spec (ws := wsX3_init) B.pre
  have hown : s.vm.findClass RX3 = some m.cls := findClass_of_methodNamed B.named
  have hlocks := B.notSynchronized
  have hin : meth.name = "<init>" := (name_of_methodNamed B.named B.method).1
  subst hsz
  have hD := hD0.self (sz := s.heap.size)
  generalize hAe : va_A [(h0, .inr (3, [.null, .null, .null]))] s.heap.size = A at hD ⊢
  have hA0 : ∀ q : Nat, s.heap.size ≤ q → A q := fun q h => by rw [← hAe]; exact Or.inr h
  have hS : va_S A s.heap s.heap [] := va_S.rf
  have hP : va_P (dC, dI) vwCl [(h0, .inr (3, [.null, .null, .null]))] s.heap := hP
  have hl := lv_entry ([.ref h0]) (n := 1) (Nat.le_of_ble_eq_true rfl)
  rw [lg_entry_eq]
  generalize (lg_sl ([.ref h0]) ++ List.replicate (1 - (lg_sl ([.ref h0])).length) Slot.unset).toArray = ls at hl ⊢
  have hl : lv_has ls 1 [(0, .ref h0)] := hl
  dsimp only [mX3_init] at h
  refine lv_aload_n hx hb dX3_init_0 rfl (lv_at hl 0 rfl) ?_
  refine W.objInit hx hb hown (hts (.methodLink RX3 3 objectInit) (by decide +kernel)) (hts (.instanceMethod objectInit) (by decide +kernel)) (hts (.code objectInit ⟨#[0xb1]⟩ 1 none) (by decide +kernel)) rfl (by rw [hml]; exact hl.1) rfl dX3_init_1 (Nat.le_of_ble_eq_true rfl) (Nat.le_of_ble_eq_true rfl) ?_
  refine W.eq (g2 := F0 m 4 ls []) rfl ?_
  refine lv_aload_n hx hb dX3_init_4 rfl (lv_at hl 0 rfl) ?_
  refine va_new (ci := 1) (fs := [.null, .int 0]) (C := RX1) (T := TX1) (N := 2) hx hb hts (by decide +kernel) tyX1 tyX1_ok hown (hts (.classLink RX3 9 RX1) (by decide +kernel)) (hts (.instantiable RX1 2) (by decide +kernel)) (hts (.initialized RX1) (by decide +kernel)) hK hP hD hS hA0 rfl (fun j hj => by rcases (show j = 0 ∨ j = 1 by omega) with rfl | rfl <;> rfl) (by decide +kernel) (by decide +kernel) dX3_init_5 (fun q5 H hP hD hS => ?_)
  have hP : va_P (dC, dI) vwCl [(h0, .inr (3, [.null, .null, .null])), (q5, .inr (1, [.null, .int 0]))] H := hP
  have hD : va_D A [(h0, .inr (3, [.null, .null, .null])), (q5, .inr (1, [.null, .int 0]))] := hD
  refine lv_dup hx hb dX3_init_8 rfl ?_
  obtain ⟨r1, hr1, h⟩ := Option.bind_eq_some_iff.mp h
  have hPc := hP.sub (ws' := [(q5, .inr (1, [.null, .int 0]))]) [1] rfl
  have hDc := hD.sub (ws' := [(q5, .inr (1, [.null, .int 0]))]) [1] (by decide) rfl
  have hKc := hK.sub (tys' := []) [] rfl
  have hFc := va_free (wc := [(q5, .inr (1, [.null, .int 0]))]) hD hS hA0 [1] rfl
  refine va_callv (va_runI (As := []) (rest := [.ref q5, .ref h0]) ⟨hx, hb, hml, hown, hts⟩ (ctX1_init l N dC dI _ q5 0 r1 hr1) (cwI 0 hts gX3_init_X1_init rfl rfl rfl (hts (.initialized RX1) (by decide +kernel)) (hts (.methodLink RX3 11 yX1_init) (by decide +kernel)) (hts (.instanceMethod yX1_init) (by decide +kernel)) rfl (by decide +kernel) ⟨Nat.le_of_ble_eq_true rfl, Nat.le_of_ble_eq_true rfl⟩) ⟨fun a U g mk q => by obtain ⟨q0, q1, qP, qK, qN, qD⟩ := q; exact ⟨q0, q1, qP, va_K.moved (u := U) (U := U.calling g mk a) (Vm.Alike.refl U.vm) qK, nw_same (u := U) (U := U.calling g mk a) rfl qN, qD⟩, fun U hU hW => ⟨rfl, by rw [hU], by rw [hU]; exact hPc, va_K.moved hW.alike hKc, nw_warm hW hN, hDc.weaken (fun _ _ _ _ => trivial)⟩⟩ rfl rfl hl.1 rfl (lv_room (Nat.le_of_ble_eq_true rfl)) dX3_init_9 ⟨by decide +kernel, by decide +kernel⟩) hS (fun q _ h => hFc q h) hFc (fun u t H1 locs ht hvm hw hB1 hz1 hk1 hS => ?_)
  obtain ⟨u2, f3⟩ := u
  obtain ⟨q8_9, k8_9, hP1, hK1, hD1⟩ := hB1
  rw [ht] at hP1
  have hK1 := va_K.moved hvm.symm hK1
  subst hw
  try dsimp only at h
  obtain ⟨hP, hD⟩ := va_join (wr := [(h0, .inr (3, [.null, .null, .null]))]) (w1 := [(q5, .inr (1, [.ref q8_9, .int u2])), (q8_9, .inl (k8_9, 10007, .inl f3))]) hP hD [1] [0] rfl rfl (by decide) (by decide) hk1 hFc hP1 hD1
  generalize H1 = H at hP hS ⊢
  have hP := hP.sub (ws' := [(h0, .inr (3, [.null, .null, .null])), (q5, .inr (1, [.ref q8_9, .int u2])), (q8_9, .inl (k8_9, 10007, .inl f3))]) [0, 1, 2] rfl
  have hD := hD.sub (ws' := [(h0, .inr (3, [.null, .null, .null])), (q5, .inr (1, [.ref q8_9, .int u2])), (q8_9, .inl (k8_9, 10007, .inl f3))]) [0, 1, 2] (by decide) rfl
  have hK := (hK.app hK1).sub (tys' := [(k8_9, .int)]) [0] rfl
  refine va_putF (D := (dC, dI)) (ci := 3) (v := .ref q5) (ty := .object "PointRings$Roots") (C := RX3) (T := TX3) (N := 3) hx hb hts (by decide +kernel) tyX3 tyX3_ok nmX3 hown hK hP hD hS 0 rfl rfl 0 (by decide) (hts (.fieldLink RX3 12 "PointRings$Survey" "roots" "LPointRings$Roots;") (by decide +kernel)) (fun _ h9 => h9) rfl hin rfl (by decide +kernel) rfl rfl (Nat.le_of_ble_eq_true rfl) dX3_init_12 (fun H locs hP hD hS => ?_)
  have hP : va_P (dC, dI) vwCl [(h0, .inr (3, [.ref q5, .null, .null])), (q5, .inr (1, [.ref q8_9, .int u2])), (q8_9, .inl (k8_9, 10007, .inl f3))] H := hP
  have hD : va_D A [(h0, .inr (3, [.ref q5, .null, .null])), (q5, .inr (1, [.ref q8_9, .int u2])), (q8_9, .inl (k8_9, 10007, .inl f3))] := hD
  refine lv_aload_n hx hb dX3_init_15 rfl (lv_at hl 0 rfl) ?_
  refine va_new (ci := 2) (fs := [.null, .null, .null, .int 0, .int 0, .int 0]) (C := RX2) (T := TX2) (N := 6) hx hb hts (by decide +kernel) tyX2 tyX2_ok hown (hts (.classLink RX3 18 RX2) (by decide +kernel)) (hts (.instantiable RX2 6) (by decide +kernel)) (hts (.initialized RX2) (by decide +kernel)) hK hP hD hS hA0 rfl (fun j hj => by rcases (show j = 0 ∨ j = 1 ∨ j = 2 ∨ j = 3 ∨ j = 4 ∨ j = 5 by omega) with rfl | rfl | rfl | rfl | rfl | rfl <;> rfl) (by decide +kernel) (by decide +kernel) dX3_init_16 (fun q16 H hP hD hS => ?_)
  have hP : va_P (dC, dI) vwCl [(h0, .inr (3, [.ref q5, .null, .null])), (q5, .inr (1, [.ref q8_9, .int u2])), (q8_9, .inl (k8_9, 10007, .inl f3)), (q16, .inr (2, [.null, .null, .null, .int 0, .int 0, .int 0]))] H := hP
  have hD : va_D A [(h0, .inr (3, [.ref q5, .null, .null])), (q5, .inr (1, [.ref q8_9, .int u2])), (q8_9, .inl (k8_9, 10007, .inl f3)), (q16, .inr (2, [.null, .null, .null, .int 0, .int 0, .int 0]))] := hD
  refine lv_dup hx hb dX3_init_19 rfl ?_
  obtain ⟨r4, hr4, h⟩ := Option.bind_eq_some_iff.mp h
  have hPc := hP.sub (ws' := [(q16, .inr (2, [.null, .null, .null, .int 0, .int 0, .int 0]))]) [3] rfl
  have hDc := hD.sub (ws' := [(q16, .inr (2, [.null, .null, .null, .int 0, .int 0, .int 0]))]) [3] (by decide) rfl
  have hKc := hK.sub (tys' := []) [] rfl
  have hFc := va_free (wc := [(q16, .inr (2, [.null, .null, .null, .int 0, .int 0, .int 0]))]) hD hS hA0 [3] rfl
  refine va_callv (va_runI (As := []) (rest := [.ref q16, .ref h0]) ⟨hx, hb, hml, hown, hts⟩ (ctX2_init l N dC dI _ q16 0 0 0 r4 hr4) (cwI 0 hts gX3_init_X2_init rfl rfl rfl (hts (.initialized RX2) (by decide +kernel)) (hts (.methodLink RX3 20 yX2_init) (by decide +kernel)) (hts (.instanceMethod yX2_init) (by decide +kernel)) rfl (by decide +kernel) ⟨Nat.le_of_ble_eq_true rfl, Nat.le_of_ble_eq_true rfl⟩) ⟨fun a U g mk q => by obtain ⟨q0, q1, qP, qK, qN, qD⟩ := q; exact ⟨q0, q1, qP, va_K.moved (u := U) (U := U.calling g mk a) (Vm.Alike.refl U.vm) qK, nw_same (u := U) (U := U.calling g mk a) rfl qN, qD⟩, fun U hU hW => ⟨rfl, by rw [hU], by rw [hU]; exact hPc, va_K.moved hW.alike hKc, nw_warm hW hN, hDc.weaken (fun _ _ _ _ => trivial)⟩⟩ rfl rfl hl.1 rfl (lv_room (Nat.le_of_ble_eq_true rfl)) dX3_init_20 ⟨by decide +kernel, by decide +kernel⟩) hS (fun q _ h => hFc q h) hFc (fun u t H1 locs ht hvm hw hB1 hz1 hk1 hS => ?_)
  obtain ⟨u5, u6, f7, f8⟩ := u
  obtain ⟨q8_20, k8_20, q17_20, k17_20, hP1, hK1, hD1⟩ := hB1
  rw [ht] at hP1
  have hK1 := va_K.moved hvm.symm hK1
  subst hw
  try dsimp only at h
  obtain ⟨hP, hD⟩ := va_join (wr := [(h0, .inr (3, [.ref q5, .null, .null])), (q5, .inr (1, [.ref q8_9, .int u2])), (q8_9, .inl (k8_9, 10007, .inl f3))]) (w1 := [(q16, .inr (2, [.ref q8_20, .ref q17_20, .null, .int u5, .int 0, .int u6])), (q8_20, .inl (k8_20, 10007, .inl f7)), (q17_20, .inl (k17_20, 128, .inl f8))]) hP hD [3] [0, 1, 2] rfl rfl (by decide) (by decide) hk1 hFc hP1 hD1
  generalize H1 = H at hP hS ⊢
  have hP := hP.sub (ws' := [(h0, .inr (3, [.ref q5, .null, .null])), (q5, .inr (1, [.ref q8_9, .int u2])), (q8_9, .inl (k8_9, 10007, .inl f3)), (q16, .inr (2, [.ref q8_20, .ref q17_20, .null, .int u5, .int 0, .int u6])), (q8_20, .inl (k8_20, 10007, .inl f7)), (q17_20, .inl (k17_20, 128, .inl f8))]) [0, 1, 2, 3, 4, 5] rfl
  have hD := hD.sub (ws' := [(h0, .inr (3, [.ref q5, .null, .null])), (q5, .inr (1, [.ref q8_9, .int u2])), (q8_9, .inl (k8_9, 10007, .inl f3)), (q16, .inr (2, [.ref q8_20, .ref q17_20, .null, .int u5, .int 0, .int u6])), (q8_20, .inl (k8_20, 10007, .inl f7)), (q17_20, .inl (k17_20, 128, .inl f8))]) [0, 1, 2, 3, 4, 5] (by decide) rfl
  have hK := (hK.app hK1).sub (tys' := [(k8_9, .int), (k8_20, .int), (k17_20, .int)]) [0, 1, 2] rfl
  refine va_putF (D := (dC, dI)) (ci := 3) (v := .ref q16) (ty := .object "PointRings$Strides") (C := RX3) (T := TX3) (N := 3) hx hb hts (by decide +kernel) tyX3 tyX3_ok nmX3 hown hK hP hD hS 0 rfl rfl 1 (by decide) (hts (.fieldLink RX3 21 "PointRings$Survey" "strides" "LPointRings$Strides;") (by decide +kernel)) (fun _ h9 => h9) rfl hin rfl (by decide +kernel) rfl rfl (Nat.le_of_ble_eq_true rfl) dX3_init_23 (fun H locs hP hD hS => ?_)
  have hP : va_P (dC, dI) vwCl [(h0, .inr (3, [.ref q5, .ref q16, .null])), (q5, .inr (1, [.ref q8_9, .int u2])), (q8_9, .inl (k8_9, 10007, .inl f3)), (q16, .inr (2, [.ref q8_20, .ref q17_20, .null, .int u5, .int 0, .int u6])), (q8_20, .inl (k8_20, 10007, .inl f7)), (q17_20, .inl (k17_20, 128, .inl f8))] H := hP
  have hD : va_D A [(h0, .inr (3, [.ref q5, .ref q16, .null])), (q5, .inr (1, [.ref q8_9, .int u2])), (q8_9, .inl (k8_9, 10007, .inl f3)), (q16, .inr (2, [.ref q8_20, .ref q17_20, .null, .int u5, .int 0, .int u6])), (q8_20, .inl (k8_20, 10007, .inl f7)), (q17_20, .inl (k17_20, 128, .inl f8))] := hD
  refine lv_aload_n hx hb dX3_init_26 rfl (lv_at hl 0 rfl) ?_
  refine lv_iconst (v := 4) hx hb dX3_init_27 (by decide) ?_
  refine va_newa (atype := .int) (ty := .int) (N' := 4) (a0 := (4, .inl (fun _ => 0))) hx hb (hts (.arrayClass .int) (by decide +kernel)) rfl hK hP hD hS hA0 (mi_az 4) (by decide +kernel) (by decide +kernel) (by decide +kernel) (by decide +kernel) (by decide +kernel) dX3_init_28 (fun q28 k28 H hK hP hD hS => ?_)
  have hP : va_P (dC, dI) vwCl [(h0, .inr (3, [.ref q5, .ref q16, .null])), (q5, .inr (1, [.ref q8_9, .int u2])), (q8_9, .inl (k8_9, 10007, .inl f3)), (q16, .inr (2, [.ref q8_20, .ref q17_20, .null, .int u5, .int 0, .int u6])), (q8_20, .inl (k8_20, 10007, .inl f7)), (q17_20, .inl (k17_20, 128, .inl f8)), (q28, .inl (k28, 4, .inl (fun _ => 0)))] H := hP
  have hD : va_D A [(h0, .inr (3, [.ref q5, .ref q16, .null])), (q5, .inr (1, [.ref q8_9, .int u2])), (q8_9, .inl (k8_9, 10007, .inl f3)), (q16, .inr (2, [.ref q8_20, .ref q17_20, .null, .int u5, .int 0, .int u6])), (q8_20, .inl (k8_20, 10007, .inl f7)), (q17_20, .inl (k17_20, 128, .inl f8)), (q28, .inl (k28, 4, .inl (fun _ => 0)))] := hD
  have hK : va_K (dC, dI) vwCl [(k8_9, .int), (k8_20, .int), (k17_20, .int), (k28, .int)] s := hK
  refine va_putF (D := (dC, dI)) (ci := 3) (v := .ref q28) (ty := .array (.int)) (C := RX3) (T := TX3) (N := 3) hx hb hts (by decide +kernel) tyX3 tyX3_ok nmX3 hown hK hP hD hS 0 rfl rfl 2 (by decide) (hts (.fieldLink RX3 25 "PointRings$Survey" "halvesFound" "[I") (by decide +kernel)) (fun _ h9 => h9) rfl hin rfl (by decide +kernel) rfl rfl (Nat.le_of_ble_eq_true rfl) dX3_init_30 (fun H locs hP hD hS => ?_)
  have hP : va_P (dC, dI) vwCl [(h0, .inr (3, [.ref q5, .ref q16, .ref q28])), (q5, .inr (1, [.ref q8_9, .int u2])), (q8_9, .inl (k8_9, 10007, .inl f3)), (q16, .inr (2, [.ref q8_20, .ref q17_20, .null, .int u5, .int 0, .int u6])), (q8_20, .inl (k8_20, 10007, .inl f7)), (q17_20, .inl (k17_20, 128, .inl f8)), (q28, .inl (k28, 4, .inl (fun _ => 0)))] H := hP
  have hD : va_D A [(h0, .inr (3, [.ref q5, .ref q16, .ref q28])), (q5, .inr (1, [.ref q8_9, .int u2])), (q8_9, .inl (k8_9, 10007, .inl f3)), (q16, .inr (2, [.ref q8_20, .ref q17_20, .null, .int u5, .int 0, .int u6])), (q8_20, .inl (k8_20, 10007, .inl f7)), (q17_20, .inl (k17_20, 128, .inl f8)), (q28, .inl (k28, 4, .inl (fun _ => 0)))] := hD
  have hv : (u2, f3, u5, 0, u6, f7, f8, (fun _ => 0)) = rr := Option.some.inj h
  have hP9 := hP.sub (ws' := [(h0, .inr (3, [.ref q5, .ref q16, .ref q28])), (q5, .inr (1, [.ref q8_9, .int u2])), (q8_9, .inl (k8_9, 10007, .inl f3)), (q16, .inr (2, [.ref q8_20, .ref q17_20, .null, .int u5, .int 0, .int u6])), (q8_20, .inl (k8_20, 10007, .inl f7)), (q17_20, .inl (k17_20, 128, .inl f8)), (q28, .inl (k28, 4, .inl (fun _ => 0)))]) [0, 1, 2, 3, 4, 5, 6] rfl
  have hD9 := hD.sub (ws' := [(h0, .inr (3, [.ref q5, .ref q16, .ref q28])), (q5, .inr (1, [.ref q8_9, .int u2])), (q8_9, .inl (k8_9, 10007, .inl f3)), (q16, .inr (2, [.ref q8_20, .ref q17_20, .null, .int u5, .int 0, .int u6])), (q8_20, .inl (k8_20, 10007, .inl f7)), (q17_20, .inl (k17_20, 128, .inl f8)), (q28, .inl (k28, 4, .inl (fun _ => 0)))]) [0, 1, 2, 3, 4, 5, 6] (by decide) rfl
  have hK9 := hK.sub (tys' := [(k8_9, .int), (k8_20, .int), (k17_20, .int), (k28, .int)]) [0, 1, 2, 3] rfl
  refine W.widen (k := 6) (n := 20154) (by decide +kernel) (by decide +kernel) ?_
  exact W.vret hx hb hr (fun t ht hW => ⟨⟨(u2, f3, u5, 0, u6, f7, f8, (fun _ => 0)), rfl, hv, q5, q8_9, k8_9, q16, q8_20, k8_20, q17_20, k17_20, q28, k28, by rw [ht]; exact hP9, va_K.moved hW.alike hK9, hD9⟩, hS.F ht⟩) hS.2.2 dX3_init_33
