def mX2_init (N : Nat)  : Option (Int32 × Int32 × (Nat → Int32) × (Nat → Int32)) := some (1, (-1), (fun _ => 0), (fun _ => 0))
abbrev rmX2_init : Room := { frames := 1, cells := 2, slots := 10135, locals := 12 }
set_option maxHeartbeats 4000000 in
set_option maxRecDepth 100000 in
theorem ctX2_init (l : Launch) (N : Nat) (dC : Nat → ClassId) (dI : Nat → Nat → Nat) (sz : Nat) (h0 : Nat) (t_order : Int32) (t_reach : Int32) (t_back : Int32) (rr : Int32 × Int32 × (Nat → Int32) × (Nat → Int32)) (h : mX2_init N  = some rr) : Met l yX2_init wsX2_init rmX2_init (va_Pc [.ref h0] (fun U => U.heap.size = sz ∧ va_P (dC, dI) vwCl [(h0, .inr (2, [.null, .null, .null, .int t_order, .int t_reach, .int t_back]))] U.heap ∧ va_K (dC, dI) vwCl [] U ∧ nw_all U ∧ va_D (fun _ => True) [(h0, .inr (2, [.null, .null, .null, .int t_order, .int t_reach, .int t_back]))])) (va_Qv (fun (u : Int32 × Int32 × (Nat → Int32) × (Nat → Int32)) => u = rr) (fun (u : Int32 × Int32 × (Nat → Int32) × (Nat → Int32)) t => match u with | (u0, u1, u2, u3) => ∃ q8 : Nat, ∃ k8 : ClassId, ∃ q17 : Nat, ∃ k17 : ClassId, va_P (dC, dI) vwCl [(h0, .inr (2, [.ref q8, .ref q17, .null, .int u0, .int t_reach, .int u1])), (q8, .inl (k8, 10007, .inl u2)), (q17, .inl (k17, 128, .inl u3))] t.heap ∧ va_K (dC, dI) vwCl [(k8, .int), (k17, .int)] t ∧ va_D (va_A [(h0, .inr (2, [.null, .null, .null, .int t_order, .int t_reach, .int t_back]))] sz) [(h0, .inr (2, [.ref q8, .ref q17, .null, .int u0, .int t_reach, .int u1])), (q8, .inl (k8, 10007, .inl u2)), (q17, .inl (k17, 128, .inl u3))]) (va_A [(h0, .inr (2, [.null, .null, .null, .int t_order, .int t_reach, .int t_back]))] sz)) 2 10135 (va_A [(h0, .inr (2, [.null, .null, .null, .int t_order, .int t_reach, .int t_back]))] sz) := by
  refine Met.ofW (cc := cX2_init) (maxL := 1) (ret := none) (by decide) rfl ?_
  intro p e s m args below meth c s₁ B hml hv
  obtain ⟨rfl, hsz, hP, hK, hN, hD0⟩ := hv
  have hx := B.exec
  have hb := B.bytes
  have hr := B.returns
  have hts := atoms_spec (ws := wsX2_init) B.pre
  have hown : s.vm.findClass RX2 = some m.cls := findClass_of_methodNamed B.named
  have hlocks := B.notSynchronized
  have hin : meth.name = "<init>" := (name_of_methodNamed B.named B.method).1
  subst hsz
  have hD := hD0.self (sz := s.heap.size)
  generalize hAe : va_A [(h0, .inr (2, [.null, .null, .null, .int t_order, .int t_reach, .int t_back]))] s.heap.size = A at hD ⊢
  have hA0 : ∀ q : Nat, s.heap.size ≤ q → A q := fun q h => by rw [← hAe]; exact Or.inr h
  have hS : va_S A s.heap s.heap [] := va_S.rf
  have hP : va_P (dC, dI) vwCl [(h0, .inr (2, [.null, .null, .null, .int t_order, .int t_reach, .int t_back]))] s.heap := hP
  have hl := lv_entry ([.ref h0]) (n := 1) (Nat.le_of_ble_eq_true rfl)
  rw [lg_entry_eq]
  generalize (lg_sl ([.ref h0]) ++ List.replicate (1 - (lg_sl ([.ref h0])).length) Slot.unset).toArray = ls at hl ⊢
  have hl : lv_has ls 1 [(0, .ref h0)] := hl
  dsimp only [mX2_init] at h
  refine lv_aload_n hx hb dX2_init_0 rfl (lv_at hl 0 rfl) ?_
  refine W.objInit hx hb hown (hts (.methodLink RX2 3 objectInit) (by decide +kernel)) (hts (.instanceMethod objectInit) (by decide +kernel)) (hts (.code objectInit ⟨#[0xb1]⟩ 1 none) (by decide +kernel)) rfl (by rw [hml]; exact hl.1) rfl dX2_init_1 (Nat.le_of_ble_eq_true rfl) (Nat.le_of_ble_eq_true rfl) ?_
  refine W.eq (g2 := F0 m 4 ls []) rfl ?_
  refine lv_aload_n hx hb dX2_init_4 rfl (lv_at hl 0 rfl) ?_
  refine lv_sipush (v := 10007) hx hb dX2_init_5 (by decide) ?_
  refine va_newa (atype := .int) (ty := .int) (N' := 10007) (a0 := (10007, .inl (fun _ => 0))) hx hb (hts (.arrayClass .int) (by decide +kernel)) rfl hK hP hD hS hA0 (mi_az 10007) (by decide +kernel) (by decide +kernel) (by decide +kernel) (by decide +kernel) (by decide +kernel) dX2_init_8 (fun q8 k8 H hK hP hD hS => ?_)
  have hP : va_P (dC, dI) vwCl [(h0, .inr (2, [.null, .null, .null, .int t_order, .int t_reach, .int t_back])), (q8, .inl (k8, 10007, .inl (fun _ => 0)))] H := hP
  have hD : va_D A [(h0, .inr (2, [.null, .null, .null, .int t_order, .int t_reach, .int t_back])), (q8, .inl (k8, 10007, .inl (fun _ => 0)))] := hD
  have hK : va_K (dC, dI) vwCl [(k8, .int)] s := hK
  refine va_putF (D := (dC, dI)) (ci := 2) (v := .ref q8) (ty := .array (.int)) (C := RX2) (T := TX2) (N := 6) hx hb hts (by decide +kernel) tyX2 tyX2_ok nmX2 hown hK hP hD hS 0 rfl rfl 0 (by decide) (hts (.fieldLink RX2 9 "PointRings$Strides" "stepAt" "[I") (by decide +kernel)) (fun _ h9 => h9) rfl hin rfl (by decide +kernel) rfl rfl (Nat.le_of_ble_eq_true rfl) dX2_init_10 (fun H locs hP hD hS => ?_)
  have hP : va_P (dC, dI) vwCl [(h0, .inr (2, [.ref q8, .null, .null, .int t_order, .int t_reach, .int t_back])), (q8, .inl (k8, 10007, .inl (fun _ => 0)))] H := hP
  have hD : va_D A [(h0, .inr (2, [.ref q8, .null, .null, .int t_order, .int t_reach, .int t_back])), (q8, .inl (k8, 10007, .inl (fun _ => 0)))] := hD
  refine lv_aload_n hx hb dX2_init_13 rfl (lv_at hl 0 rfl) ?_
  refine lv_sipush (v := 128) hx hb dX2_init_14 (by decide) ?_
  refine va_newa (atype := .int) (ty := .int) (N' := 128) (a0 := (128, .inl (fun _ => 0))) hx hb (hts (.arrayClass .int) (by decide +kernel)) rfl hK hP hD hS hA0 (mi_az 128) (by decide +kernel) (by decide +kernel) (by decide +kernel) (by decide +kernel) (by decide +kernel) dX2_init_17 (fun q17 k17 H hK hP hD hS => ?_)
  have hP : va_P (dC, dI) vwCl [(h0, .inr (2, [.ref q8, .null, .null, .int t_order, .int t_reach, .int t_back])), (q8, .inl (k8, 10007, .inl (fun _ => 0))), (q17, .inl (k17, 128, .inl (fun _ => 0)))] H := hP
  have hD : va_D A [(h0, .inr (2, [.ref q8, .null, .null, .int t_order, .int t_reach, .int t_back])), (q8, .inl (k8, 10007, .inl (fun _ => 0))), (q17, .inl (k17, 128, .inl (fun _ => 0)))] := hD
  have hK : va_K (dC, dI) vwCl [(k8, .int), (k17, .int)] s := hK
  refine va_putF (D := (dC, dI)) (ci := 2) (v := .ref q17) (ty := .array (.int)) (C := RX2) (T := TX2) (N := 6) hx hb hts (by decide +kernel) tyX2 tyX2_ok nmX2 hown hK hP hD hS 0 rfl rfl 1 (by decide) (hts (.fieldLink RX2 15 "PointRings$Strides" "ends" "[I") (by decide +kernel)) (fun _ h9 => h9) rfl hin rfl (by decide +kernel) rfl rfl (Nat.le_of_ble_eq_true rfl) dX2_init_19 (fun H locs hP hD hS => ?_)
  have hP : va_P (dC, dI) vwCl [(h0, .inr (2, [.ref q8, .ref q17, .null, .int t_order, .int t_reach, .int t_back])), (q8, .inl (k8, 10007, .inl (fun _ => 0))), (q17, .inl (k17, 128, .inl (fun _ => 0)))] H := hP
  have hD : va_D A [(h0, .inr (2, [.ref q8, .ref q17, .null, .int t_order, .int t_reach, .int t_back])), (q8, .inl (k8, 10007, .inl (fun _ => 0))), (q17, .inl (k17, 128, .inl (fun _ => 0)))] := hD
  refine lv_aload_n hx hb dX2_init_22 rfl (lv_at hl 0 rfl) ?_
  refine lv_iconst (v := 1) hx hb dX2_init_23 (by decide) ?_
  refine va_put (D := (dC, dI)) (ci := 2) (v := .int 1) (ty := .int) (C := RX2) (T := TX2) (N := 6) hx hb hts (by decide +kernel) tyX2 tyX2_ok nmX2 hown hK hP hD hS 0 rfl rfl 3 (by decide) (hts (.fieldLink RX2 18 "PointRings$Strides" "order" "I") (by decide +kernel)) (fun _ h9 => h9) rfl (by decide +kernel) rfl rfl (Nat.le_of_ble_eq_true rfl) dX2_init_24 (fun H locs hP hD hS => ?_)
  have hP : va_P (dC, dI) vwCl [(h0, .inr (2, [.ref q8, .ref q17, .null, .int 1, .int t_reach, .int t_back])), (q8, .inl (k8, 10007, .inl (fun _ => 0))), (q17, .inl (k17, 128, .inl (fun _ => 0)))] H := hP
  have hD : va_D A [(h0, .inr (2, [.ref q8, .ref q17, .null, .int 1, .int t_reach, .int t_back])), (q8, .inl (k8, 10007, .inl (fun _ => 0))), (q17, .inl (k17, 128, .inl (fun _ => 0)))] := hD
  refine lv_aload_n hx hb dX2_init_27 rfl (lv_at hl 0 rfl) ?_
  refine lv_iconst (v := (-1)) hx hb dX2_init_28 (by decide) ?_
  refine va_put (D := (dC, dI)) (ci := 2) (v := .int (-1)) (ty := .int) (C := RX2) (T := TX2) (N := 6) hx hb hts (by decide +kernel) tyX2 tyX2_ok nmX2 hown hK hP hD hS 0 rfl rfl 5 (by decide) (hts (.fieldLink RX2 22 "PointRings$Strides" "back" "I") (by decide +kernel)) (fun _ h9 => h9) rfl (by decide +kernel) rfl rfl (Nat.le_of_ble_eq_true rfl) dX2_init_29 (fun H locs hP hD hS => ?_)
  have hP : va_P (dC, dI) vwCl [(h0, .inr (2, [.ref q8, .ref q17, .null, .int 1, .int t_reach, .int (-1)])), (q8, .inl (k8, 10007, .inl (fun _ => 0))), (q17, .inl (k17, 128, .inl (fun _ => 0)))] H := hP
  have hD : va_D A [(h0, .inr (2, [.ref q8, .ref q17, .null, .int 1, .int t_reach, .int (-1)])), (q8, .inl (k8, 10007, .inl (fun _ => 0))), (q17, .inl (k17, 128, .inl (fun _ => 0)))] := hD
  have hv : (1, (-1), (fun _ => 0), (fun _ => 0)) = rr := Option.some.inj h
  have hP9 := hP.sub (ws' := [(h0, .inr (2, [.ref q8, .ref q17, .null, .int 1, .int t_reach, .int (-1)])), (q8, .inl (k8, 10007, .inl (fun _ => 0))), (q17, .inl (k17, 128, .inl (fun _ => 0)))]) [0, 1, 2] rfl
  have hD9 := hD.sub (ws' := [(h0, .inr (2, [.ref q8, .ref q17, .null, .int 1, .int t_reach, .int (-1)])), (q8, .inl (k8, 10007, .inl (fun _ => 0))), (q17, .inl (k17, 128, .inl (fun _ => 0)))]) [0, 1, 2] (by decide) rfl
  have hK9 := hK.sub (tys' := [(k8, .int), (k17, .int)]) [0, 1] rfl
  refine W.widen (k := 2) (n := 10135) (by decide +kernel) (by decide +kernel) ?_
  exact W.vret hx hb hr (fun t ht hW => ⟨⟨(1, (-1), (fun _ => 0), (fun _ => 0)), rfl, hv, q8, k8, q17, k17, by rw [ht]; exact hP9, va_K.moved hW.alike hK9, hD9⟩, hS.F ht⟩) hS.2.2 dX2_init_32
