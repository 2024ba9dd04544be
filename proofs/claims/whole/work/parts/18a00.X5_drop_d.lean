def mX5_drop_d (N : Nat) (t_size : Int32) : Option (Int32 × Int32) := mi_let (t_size - 1) (fun v2 => if v2 < 0 ∨ 24 ≤ v2.toNatClampNeg then none else some (v2, v2))
abbrev rmX5_drop_d : Room := { frames := 0, cells := 0, slots := 0, locals := 0 }
set_option maxHeartbeats 4000000 in
set_option maxRecDepth 100000 in
theorem ctX5_drop_d (l : Launch) (N : Nat) (dC : Nat → ClassId) (dI : Nat → Nat → Nat) (sz : Nat) (h0 : Nat) (h0_held : Nat) (h0_survey : Nat) (k_t_held : ClassId) (t_size : Int32) (t_held : Nat → Option Nat) (rr : Int32 × Int32) (h : mX5_drop_d N t_size = some rr) (hk0 : 1 ≤ t_size) : Met l yX5_drop wsX5_drop rmX5_drop_d (va_Pc [.ref h0] (fun U => U.heap.size = sz ∧ va_P (dC, dI) vwCl [(h0, .inr (4, [.ref h0_held, .int t_size, .ref h0_survey])), (h0_held, .inl (k_t_held, 24, .inr (.inr (.inr (.inr t_held)))))] U.heap ∧ va_K (dC, dI) vwCl [(k_t_held, .object "PointRings$Curve")] U ∧ nw_all U ∧ va_D (fun _ => True) [(h0, .inr (4, [.ref h0_held, .int t_size, .ref h0_survey])), (h0_held, .inl (k_t_held, 24, .inr (.inr (.inr (.inr t_held)))))])) (va_Qi (fun (r : Int32) (u : Int32) => (r, u) = rr) (fun (u : Int32) t => match u with | u0 => va_P (dC, dI) vwCl [(h0, .inr (4, [.ref h0_held, .int u0, .ref h0_survey])), (h0_held, .inl (k_t_held, 24, .inr (.inr (.inr (.inr (va_up t_held u0.toNatClampNeg none))))))] t.heap ∧ va_K (dC, dI) vwCl [(k_t_held, .object "PointRings$Curve")] t ∧ va_D (va_A [(h0, .inr (4, [.ref h0_held, .int t_size, .ref h0_survey])), (h0_held, .inl (k_t_held, 24, .inr (.inr (.inr (.inr t_held)))))] sz) [(h0, .inr (4, [.ref h0_held, .int u0, .ref h0_survey])), (h0_held, .inl (k_t_held, 24, .inr (.inr (.inr (.inr (va_up t_held u0.toNatClampNeg none))))))]) (va_A [(h0, .inr (4, [.ref h0_held, .int t_size, .ref h0_survey])), (h0_held, .inl (k_t_held, 24, .inr (.inr (.inr (.inr t_held)))))] sz)) 0 0 (va_A [(h0, .inr (4, [.ref h0_held, .int t_size, .ref h0_survey])), (h0_held, .inl (k_t_held, 24, .inr (.inr (.inr (.inr t_held)))))] sz) := by
  refine Met.ofW (cc := cX5_drop) (maxL := 1) (ret := (some .int)) (by decide) rfl ?_
  intro p e s m args below meth c s₁ B hml hv
  obtain ⟨rfl, hsz, hP, hK, hN, hD0⟩ := hv
  have hx := B.exec
  have hb := B.bytes
  have hr := B.returns
  have hts := atoms_spec (ws := wsX5_drop) B.pre
  have hown : s.vm.findClass RX5 = some m.cls := findClass_of_methodNamed B.named
  have hlocks := B.notSynchronized
  subst hsz
  have hD := hD0.self (sz := s.heap.size)
  generalize hAe : va_A [(h0, .inr (4, [.ref h0_held, .int t_size, .ref h0_survey])), (h0_held, .inl (k_t_held, 24, .inr (.inr (.inr (.inr t_held)))))] s.heap.size = A at hD ⊢
  have hA0 : ∀ q : Nat, s.heap.size ≤ q → A q := fun q h => by rw [← hAe]; exact Or.inr h
  have hS : va_S A s.heap s.heap [] := va_S.rf
  have hP : va_P (dC, dI) vwCl [(h0, .inr (4, [.ref h0_held, .int t_size, .ref h0_survey])), (h0_held, .inl (k_t_held, 24, .inr (.inr (.inr (.inr t_held)))))] s.heap := hP
  have hl := lv_entry ([.ref h0]) (n := 1) (Nat.le_of_ble_eq_true rfl)
  rw [lg_entry_eq]
  generalize (lg_sl ([.ref h0]) ++ List.replicate (1 - (lg_sl ([.ref h0])).length) Slot.unset).toArray = ls at hl ⊢
  have hl : lv_has ls 1 [(0, .ref h0)] := hl
  dsimp only [mX5_drop_d] at h
  refine lv_aload_n hx hb dX5_drop_0 rfl (lv_at hl 0 rfl) ?_
  refine va_get (D := (dC, dI)) (ci := 4) (v := .int t_size) (C := RX5) (T := TX5) (N := 3) hx hb hts (by decide +kernel) hown hK hP 0 rfl rfl 1 (by decide) (hts (.fieldLink RX5 15 "PointRings" "size" "I") (by decide +kernel)) (fun _ h9 => h9) rfl dX5_drop_1 ?_
  refine lv_iconst (v := 1) hx hb dX5_drop_4 (by decide) ?_
  refine lv_icmp_ge (tgt := 10) hx hb dX5_drop_5 (by decide) (fun c1 => ?_) (fun c1 => ?_)
  · refine lv_aload_n hx hb dX5_drop_10 rfl (lv_at hl 0 rfl) ?_
    refine lv_dup hx hb dX5_drop_11 rfl ?_
    refine va_get (D := (dC, dI)) (ci := 4) (v := .int t_size) (C := RX5) (T := TX5) (N := 3) hx hb hts (by decide +kernel) hown hK hP 0 rfl rfl 1 (by decide) (hts (.fieldLink RX5 15 "PointRings" "size" "I") (by decide +kernel)) (fun _ h9 => h9) rfl dX5_drop_12 ?_
    refine lv_iconst (v := 1) hx hb dX5_drop_15 (by decide) ?_
    refine lv_isub hx hb dX5_drop_16 ?_
    refine lv_topi (fun v2 ev2 => ?_)
    replace h := mi_use ev2 h
    refine va_put (D := (dC, dI)) (ci := 4) (v := .int v2) (ty := .int) (C := RX5) (T := TX5) (N := 3) hx hb hts (by decide +kernel) tyX5 tyX5_ok nmX5 hown hK hP hD hS 0 rfl rfl 1 (by decide) (hts (.fieldLink RX5 15 "PointRings" "size" "I") (by decide +kernel)) (fun _ h9 => h9) rfl (by decide +kernel) rfl rfl (Nat.le_of_ble_eq_true rfl) dX5_drop_17 (fun H locs hP hD hS => ?_)
    have hP : va_P (dC, dI) vwCl [(h0, .inr (4, [.ref h0_held, .int v2, .ref h0_survey])), (h0_held, .inl (k_t_held, 24, .inr (.inr (.inr (.inr t_held)))))] H := hP
    have hD : va_D A [(h0, .inr (4, [.ref h0_held, .int v2, .ref h0_survey])), (h0_held, .inl (k_t_held, 24, .inr (.inr (.inr (.inr t_held)))))] := hD
    refine lv_aload_n hx hb dX5_drop_20 rfl (lv_at hl 0 rfl) ?_
    refine va_get (D := (dC, dI)) (ci := 4) (v := .ref h0_held) (C := RX5) (T := TX5) (N := 3) hx hb hts (by decide +kernel) hown hK hP 0 rfl rfl 0 (by decide) (hts (.fieldLink RX5 11 "PointRings" "held" "[LPointRings$Curve;") (by decide +kernel)) (fun _ h9 => h9) rfl dX5_drop_21 ?_
    refine lv_aload_n hx hb dX5_drop_24 rfl (lv_at hl 0 rfl) ?_
    refine va_get (D := (dC, dI)) (ci := 4) (v := .int v2) (C := RX5) (T := TX5) (N := 3) hx hb hts (by decide +kernel) hown hK hP 0 rfl rfl 1 (by decide) (hts (.fieldLink RX5 15 "PointRings" "size" "I") (by decide +kernel)) (fun _ h9 => h9) rfl dX5_drop_25 ?_
    refine lv_null hx hb dX5_drop_28 ?_
    have hi3 : ¬ (v2 < 0 ∨ 24 ≤ v2.toNatClampNeg) := fun hz => absurd ((if_pos hz).symm.trans h) (fun hh => nomatch hh)
    replace h := (if_neg hi3).symm.trans h
    refine va_astqN hx hb hK hP hD hS 1 0 rfl rfl hi3 dX5_drop_29 (fun H locs hP hD hS => ?_)
    have hP : va_P (dC, dI) vwCl [(h0, .inr (4, [.ref h0_held, .int v2, .ref h0_survey])), (h0_held, .inl (k_t_held, 24, .inr (.inr (.inr (.inr (va_up t_held v2.toNatClampNeg none))))))] H := hP
    have hD : va_D A [(h0, .inr (4, [.ref h0_held, .int v2, .ref h0_survey])), (h0_held, .inl (k_t_held, 24, .inr (.inr (.inr (.inr (va_up t_held v2.toNatClampNeg none))))))] := hD
    refine lv_aload_n hx hb dX5_drop_30 rfl (lv_at hl 0 rfl) ?_
    refine va_get (D := (dC, dI)) (ci := 4) (v := .int v2) (C := RX5) (T := TX5) (N := 3) hx hb hts (by decide +kernel) hown hK hP 0 rfl rfl 1 (by decide) (hts (.fieldLink RX5 15 "PointRings" "size" "I") (by decide +kernel)) (fun _ h9 => h9) rfl dX5_drop_31 ?_
    have hv : (v2, v2) = rr := Option.some.inj h
    have hP9 := hP.sub (ws' := [(h0, .inr (4, [.ref h0_held, .int v2, .ref h0_survey])), (h0_held, .inl (k_t_held, 24, .inr (.inr (.inr (.inr (va_up t_held v2.toNatClampNeg none))))))]) [0, 1] rfl
    have hD9 := hD.sub (ws' := [(h0, .inr (4, [.ref h0_held, .int v2, .ref h0_survey])), (h0_held, .inl (k_t_held, 24, .inr (.inr (.inr (.inr (va_up t_held v2.toNatClampNeg none))))))]) [0, 1] (by decide) rfl
    have hK9 := hK.sub (tys' := [(k_t_held, .object "PointRings$Curve")]) [0] rfl
    exact W.iret (v := v2) hx hb hr (fun t ht hW => ⟨⟨v2, v2, rfl, hv, by rw [ht]; exact hP9, va_K.moved hW.alike hK9, hD9⟩, hS.F ht⟩) hS.2.2 dX5_drop_34
  · exact absurd hk0 c1
def mX5_madeByKernel_s (N : Nat) (y0 : Nat) (y0_kernelOrder : Int32) (a0 : Int32) : Option (Option Nat) := if y0_kernelOrder = 0 then some none else some (some y0)
abbrev rmX5_madeByKernel_s : Room := { frames := 1, cells := 0, slots := 0, locals := 21 }
set_option maxHeartbeats 4000000 in
set_option maxRecDepth 100000 in
theorem ctX5_madeByKernel_s (l : Launch) (N : Nat) (dC : Nat → ClassId) (dI : Nat → Nat → Nat) (h0 : Nat) (h0_held : Nat) (y0 : Nat) (h0_survey : Nat) (k_t_held : ClassId) (t_size : Int32) (t_held : Nat → Option Nat) (y0_p : Int32) (y0_a : Int32) (y0_b : Int32) (y0_from : Int32) (y0_kernelPoint : Int32) (y0_kernelOrder : Int32) (y0_points : Int32) (y0_inner : Int32) (y0_outer : Int32) (y0_makersFound : Int32) (y0_first : Int32) (y0_second : Int32) (a0 : Int32) (rr : Option Nat) (h : mX5_madeByKernel_s N y0 y0_kernelOrder a0 = some rr) (hk0 : mX5_at N t_size t_held a0 = some (some y0)) : Met l yX5_madeByKernel wsX5_madeByKernel rmX5_madeByKernel_s (va_Pc [.ref h0, .int a0] (fun U => va_P (dC, dI) vwCl [(h0, .inr (4, [.ref h0_held, .int t_size, .ref h0_survey])), (h0_held, .inl (k_t_held, 24, .inr (.inr (.inr (.inr t_held))))), (y0, .inr (0, [.int y0_p, .int y0_a, .int y0_b, .int y0_from, .int y0_kernelPoint, .int y0_kernelOrder, .int y0_points, .int y0_inner, .int y0_outer, .int y0_makersFound, .int y0_first, .int y0_second]))] U.heap ∧ va_K (dC, dI) vwCl [(k_t_held, .object "PointRings$Curve")] U ∧ nw_all U)) (va_Sq (fun r => r = rr)) 0 0 (fun _ => False) := by
  refine Met.ofW (cc := cX5_madeByKernel) (maxL := 3) (ret := (some (.object "PointRings$Curve"))) (by decide) rfl ?_
  intro p e s m args below meth c s₁ B hml hv
  obtain ⟨rfl, hP, hK, hN⟩ := hv
  have hx := B.exec
  have hb := B.bytes
  have hr := B.returns
  have hts := atoms_spec (ws := wsX5_madeByKernel) B.pre
  have hown : s.vm.findClass RX5 = some m.cls := findClass_of_methodNamed B.named
  have hlocks := B.notSynchronized
  have hl := lv_entry ([.ref h0, .int a0]) (n := 3) (Nat.le_of_ble_eq_true rfl)
  rw [lg_entry_eq]
  generalize (lg_sl ([.ref h0, .int a0]) ++ List.replicate (3 - (lg_sl ([.ref h0, .int a0])).length) Slot.unset).toArray = ls at hl ⊢
  have hl : lv_has ls 3 [(0, .ref h0), (1, .int a0)] := hl
  dsimp only [mX5_madeByKernel_s] at h
  refine lv_aload_n hx hb dX5_madeByKernel_0 rfl (lv_at hl 0 rfl) ?_
  refine lv_iload_n hx hb dX5_madeByKernel_1 rfl (lv_at hl 1 rfl) ?_
  have hPc := hP.sub (ws' := [(h0, .inr (4, [.ref h0_held, .int t_size, .ref h0_survey])), (h0_held, .inl (k_t_held, 24, .inr (.inr (.inr (.inr t_held)))))]) [0, 1] rfl
  have hKc := hK.sub (tys' := [(k_t_held, .object "PointRings$Curve")]) [0] rfl
  refine va_csq (W.runV (As := [.int a0]) (rest := []) ⟨hx, hb, hml, hown, hts⟩ (ctX5_at l N dC dI  h0 h0_held h0_survey k_t_held t_size t_held a0 (some y0) hk0) (cwV 1 hts gX5_madeByKernel_X5_at rfl rfl rfl (by decide +kernel) ⟨Nat.le_of_ble_eq_true rfl, Nat.le_of_ble_eq_true rfl⟩) ⟨fun a U g mk q => by obtain ⟨q0, qP, qK, qN⟩ := q; exact ⟨q0, qP, va_K.moved (u := U) (U := U.calling g mk a) (Vm.Alike.refl U.vm) qK, nw_same (u := U) (U := U.calling g mk a) rfl qN⟩, va_recv hKc hPc (ci := 4) (q0 := 0) rfl rfl, fun U hU hW => ⟨rfl, by rw [hU]; exact hPc, va_K.moved hW.alike hKc, nw_warm hW hN⟩⟩ rfl rfl hl.1 rfl (lv_room (Nat.le_of_ble_eq_true rfl)) dX5_madeByKernel_2 ⟨Nat.le_of_ble_eq_true rfl, Nat.le_of_ble_eq_true rfl⟩) (fun q9 eq9 => ?_)
  subst q9
  refine lv_astore_n (lv' := [(2, .ref y0), (0, .ref h0), (1, .int a0)]) hx hb dX5_madeByKernel_5 rfl hl (by decide) rfl (fun ls hl => ?_)
  refine lv_aload_n hx hb dX5_madeByKernel_6 rfl (lv_at hl 0 rfl) ?_
  refine lv_ifnull hx hb dX5_madeByKernel_7 ?_
  refine lv_aload_n hx hb dX5_madeByKernel_10 rfl (lv_at hl 0 rfl) ?_
  refine va_get (D := (dC, dI)) (ci := 0) (v := .int y0_kernelOrder) (C := RX0) (T := TX0) (N := 12) hx hb hts (by decide +kernel) hown hK hP 2 rfl rfl 5 (by decide) (hts (.fieldLink RX5 202 "PointRings$Curve" "kernelOrder" "I") (by decide +kernel)) (fun _ h9 => h9) rfl dX5_madeByKernel_11 ?_
  refine lv_if_ne (tgt := 21) hx hb dX5_madeByKernel_14 (by decide) (fun c2 => ?_) (fun c2 => ?_)
  · replace h := (if_neg c2).symm.trans h
    refine lv_aload_n hx hb dX5_madeByKernel_21 rfl (lv_at hl 0 rfl) ?_
    have hv : (some y0) = rr := Option.some.inj h
    exact W.aret (v := (.ref y0)) hx hb hr (Or.inl ⟨_, rfl⟩) (Or.inr ⟨_, rfl⟩) (fun t ht hW => ⟨(some y0), rfl, hv, ht⟩) (fun q hq => absurd hq List.not_mem_nil) dX5_madeByKernel_22
  · replace h := (if_pos c2).symm.trans h
    refine lv_null hx hb dX5_madeByKernel_17 ?_
    refine lv_goto (tgt := 22) hx hb dX5_madeByKernel_18 (by decide) ?_
    have hv : none = rr := Option.some.inj h
    exact W.aret (v := .null) hx hb hr (Or.inl ⟨_, rfl⟩) (Or.inl rfl) (fun t ht hW => ⟨none, rfl, hv, ht⟩) (fun q hq => absurd hq List.not_mem_nil) dX5_madeByKernel_22
def mX5_map_nt (N : Nat) (a0 : Int32) (a1 : Int32) : Option (Int32) := some (-2)
abbrev rmX5_map_nt : Room := { frames := 1, cells := 0, slots := 0, locals := 21 }
set_option maxHeartbeats 4000000 in
set_option maxRecDepth 100000 in
theorem ctX5_map_nt (l : Launch) (N : Nat) (dC : Nat → ClassId) (dI : Nat → Nat → Nat) (h0 : Nat) (h0_held : Nat) (h0_survey : Nat) (y1 : Nat) (k_t_held : ClassId) (t_size : Int32) (t_held : Nat → Option Nat) (a0 : Int32) (a1 : Int32) (rr : Int32) (h : mX5_map_nt N a0 a1 = some rr) (hk0 : mX5_at N t_size t_held a0 = some none) (hk1 : mX5_at N t_size t_held a1 = some (some y1)) : Met l yX5_map wsX5_map rmX5_map_nt (va_Pc [.ref h0, .int a0, .int a1] (fun U => va_P (dC, dI) vwCl [(h0, .inr (4, [.ref h0_held, .int t_size, .ref h0_survey])), (h0_held, .inl (k_t_held, 24, .inr (.inr (.inr (.inr t_held)))))] U.heap ∧ va_K (dC, dI) vwCl [(k_t_held, .object "PointRings$Curve")] U ∧ nw_all U)) (vp_Si (fun r => r = rr)) 0 0 (fun _ => False) := by
  refine Met.ofW (cc := cX5_map) (maxL := 5) (ret := (some .int)) (by decide) rfl ?_
  intro p e s m args below meth c s₁ B hml hv
  obtain ⟨rfl, hP, hK, hN⟩ := hv
  have hx := B.exec
  have hb := B.bytes
  have hr := B.returns
  have hts := atoms_spec (ws := wsX5_map) B.pre
  have hown : s.vm.findClass RX5 = some m.cls := findClass_of_methodNamed B.named
  have hlocks := B.notSynchronized
  have hl := lv_entry ([.ref h0, .int a0, .int a1]) (n := 5) (Nat.le_of_ble_eq_true rfl)
  rw [lg_entry_eq]
  generalize (lg_sl ([.ref h0, .int a0, .int a1]) ++ List.replicate (5 - (lg_sl ([.ref h0, .int a0, .int a1])).length) Slot.unset).toArray = ls at hl ⊢
  have hl : lv_has ls 5 [(0, .ref h0), (1, .int a0), (2, .int a1)] := hl
  dsimp only [mX5_map_nt] at h
  refine lv_aload_n hx hb dX5_map_0 rfl (lv_at hl 0 rfl) ?_
  refine lv_iload_n hx hb dX5_map_1 rfl (lv_at hl 1 rfl) ?_
  have hPc := hP.sub (ws' := [(h0, .inr (4, [.ref h0_held, .int t_size, .ref h0_survey])), (h0_held, .inl (k_t_held, 24, .inr (.inr (.inr (.inr t_held)))))]) [0, 1] rfl
  have hKc := hK.sub (tys' := [(k_t_held, .object "PointRings$Curve")]) [0] rfl
  refine va_csq (W.runV (As := [.int a0]) (rest := []) ⟨hx, hb, hml, hown, hts⟩ (ctX5_at l N dC dI  h0 h0_held h0_survey k_t_held t_size t_held a0 none hk0) (cwV 1 hts gX5_map_X5_at rfl rfl rfl (by decide +kernel) ⟨Nat.le_of_ble_eq_true rfl, Nat.le_of_ble_eq_true rfl⟩) ⟨fun a U g mk q => by obtain ⟨q0, qP, qK, qN⟩ := q; exact ⟨q0, qP, va_K.moved (u := U) (U := U.calling g mk a) (Vm.Alike.refl U.vm) qK, nw_same (u := U) (U := U.calling g mk a) rfl qN⟩, va_recv hKc hPc (ci := 4) (q0 := 0) rfl rfl, fun U hU hW => ⟨rfl, by rw [hU]; exact hPc, va_K.moved hW.alike hKc, nw_warm hW hN⟩⟩ rfl rfl hl.1 rfl (lv_room (Nat.le_of_ble_eq_true rfl)) dX5_map_2 ⟨Nat.le_of_ble_eq_true rfl, Nat.le_of_ble_eq_true rfl⟩) (fun q9 eq9 => ?_)
  subst q9
  refine lv_astore_nN (lv' := [(3, .null), (0, .ref h0), (1, .int a0), (2, .int a1)]) hx hb dX5_map_5 rfl hl (by decide) rfl (fun ls hl => ?_)
  refine lv_aload_n hx hb dX5_map_6 rfl (lv_at hl 1 rfl) ?_
  refine lv_iload_n hx hb dX5_map_7 rfl (lv_at hl 3 rfl) ?_
  have hPc := hP.sub (ws' := [(h0, .inr (4, [.ref h0_held, .int t_size, .ref h0_survey])), (h0_held, .inl (k_t_held, 24, .inr (.inr (.inr (.inr t_held)))))]) [0, 1] rfl
  have hKc := hK.sub (tys' := [(k_t_held, .object "PointRings$Curve")]) [0] rfl
  refine va_csq (W.runV (As := [.int a1]) (rest := []) ⟨hx, hb, hml, hown, hts⟩ (ctX5_at l N dC dI  h0 h0_held h0_survey k_t_held t_size t_held a1 (some y1) hk1) (cwV 1 hts gX5_map_X5_at rfl rfl rfl (by decide +kernel) ⟨Nat.le_of_ble_eq_true rfl, Nat.le_of_ble_eq_true rfl⟩) ⟨fun a U g mk q => by obtain ⟨q0, qP, qK, qN⟩ := q; exact ⟨q0, qP, va_K.moved (u := U) (U := U.calling g mk a) (Vm.Alike.refl U.vm) qK, nw_same (u := U) (U := U.calling g mk a) rfl qN⟩, va_recv hKc hPc (ci := 4) (q0 := 0) rfl rfl, fun U hU hW => ⟨rfl, by rw [hU]; exact hPc, va_K.moved hW.alike hKc, nw_warm hW hN⟩⟩ rfl rfl hl.1 rfl (lv_room (Nat.le_of_ble_eq_true rfl)) dX5_map_8 ⟨Nat.le_of_ble_eq_true rfl, Nat.le_of_ble_eq_true rfl⟩) (fun q9 eq9 => ?_)
  subst q9
  refine lv_astore (lv' := [(4, .ref y1), (3, .null), (0, .ref h0), (1, .int a0), (2, .int a1)]) hx hb dX5_map_11 hl (by decide) rfl (fun ls hl => ?_)
  refine lv_aload_nN hx hb dX5_map_13 rfl (lv_at hl 1 rfl) ?_
  refine lv_ifnullN (tgt := 22) hx hb dX5_map_14 (by decide) ?_
  refine lv_bipush (v := (-2)) hx hb dX5_map_22 (by decide) ?_
  have hv : (-2) = rr := Option.some.inj h
  exact W.iret (v := (-2)) hx hb hr (fun t ht hW => ⟨_, rfl, hv, ht⟩) (fun q hq => absurd hq List.not_mem_nil) dX5_map_24
def mX5_map_sn (N : Nat) (a0 : Int32) (a1 : Int32) : Option (Int32) := some (-2)
abbrev rmX5_map_sn : Room := { frames := 1, cells := 0, slots := 0, locals := 21 }
set_option maxHeartbeats 4000000 in
set_option maxRecDepth 100000 in
theorem ctX5_map_sn (l : Launch) (N : Nat) (dC : Nat → ClassId) (dI : Nat → Nat → Nat) (h0 : Nat) (h0_held : Nat) (h0_survey : Nat) (y0 : Nat) (k_t_held : ClassId) (t_size : Int32) (t_held : Nat → Option Nat) (a0 : Int32) (a1 : Int32) (rr : Int32) (h : mX5_map_sn N a0 a1 = some rr) (hk0 : mX5_at N t_size t_held a0 = some (some y0)) (hk1 : mX5_at N t_size t_held a1 = some none) : Met l yX5_map wsX5_map rmX5_map_sn (va_Pc [.ref h0, .int a0, .int a1] (fun U => va_P (dC, dI) vwCl [(h0, .inr (4, [.ref h0_held, .int t_size, .ref h0_survey])), (h0_held, .inl (k_t_held, 24, .inr (.inr (.inr (.inr t_held)))))] U.heap ∧ va_K (dC, dI) vwCl [(k_t_held, .object "PointRings$Curve")] U ∧ nw_all U)) (vp_Si (fun r => r = rr)) 0 0 (fun _ => False) := by
  refine Met.ofW (cc := cX5_map) (maxL := 5) (ret := (some .int)) (by decide) rfl ?_
  intro p e s m args below meth c s₁ B hml hv
  obtain ⟨rfl, hP, hK, hN⟩ := hv
  have hx := B.exec
  have hb := B.bytes
  have hr := B.returns
  have hts := atoms_spec (ws := wsX5_map) B.pre
  have hown : s.vm.findClass RX5 = some m.cls := findClass_of_methodNamed B.named
  have hlocks := B.notSynchronized
  have hl := lv_entry ([.ref h0, .int a0, .int a1]) (n := 5) (Nat.le_of_ble_eq_true rfl)
  rw [lg_entry_eq]
  generalize (lg_sl ([.ref h0, .int a0, .int a1]) ++ List.replicate (5 - (lg_sl ([.ref h0, .int a0, .int a1])).length) Slot.unset).toArray = ls at hl ⊢
  have hl : lv_has ls 5 [(0, .ref h0), (1, .int a0), (2, .int a1)] := hl
  dsimp only [mX5_map_sn] at h
  refine lv_aload_n hx hb dX5_map_0 rfl (lv_at hl 0 rfl) ?_
  refine lv_iload_n hx hb dX5_map_1 rfl (lv_at hl 1 rfl) ?_
  have hPc := hP.sub (ws' := [(h0, .inr (4, [.ref h0_held, .int t_size, .ref h0_survey])), (h0_held, .inl (k_t_held, 24, .inr (.inr (.inr (.inr t_held)))))]) [0, 1] rfl
  have hKc := hK.sub (tys' := [(k_t_held, .object "PointRings$Curve")]) [0] rfl
  refine va_csq (W.runV (As := [.int a0]) (rest := []) ⟨hx, hb, hml, hown, hts⟩ (ctX5_at l N dC dI  h0 h0_held h0_survey k_t_held t_size t_held a0 (some y0) hk0) (cwV 1 hts gX5_map_X5_at rfl rfl rfl (by decide +kernel) ⟨Nat.le_of_ble_eq_true rfl, Nat.le_of_ble_eq_true rfl⟩) ⟨fun a U g mk q => by obtain ⟨q0, qP, qK, qN⟩ := q; exact ⟨q0, qP, va_K.moved (u := U) (U := U.calling g mk a) (Vm.Alike.refl U.vm) qK, nw_same (u := U) (U := U.calling g mk a) rfl qN⟩, va_recv hKc hPc (ci := 4) (q0 := 0) rfl rfl, fun U hU hW => ⟨rfl, by rw [hU]; exact hPc, va_K.moved hW.alike hKc, nw_warm hW hN⟩⟩ rfl rfl hl.1 rfl (lv_room (Nat.le_of_ble_eq_true rfl)) dX5_map_2 ⟨Nat.le_of_ble_eq_true rfl, Nat.le_of_ble_eq_true rfl⟩) (fun q9 eq9 => ?_)
  subst q9
  refine lv_astore_n (lv' := [(3, .ref y0), (0, .ref h0), (1, .int a0), (2, .int a1)]) hx hb dX5_map_5 rfl hl (by decide) rfl (fun ls hl => ?_)
  refine lv_aload_n hx hb dX5_map_6 rfl (lv_at hl 1 rfl) ?_
  refine lv_iload_n hx hb dX5_map_7 rfl (lv_at hl 3 rfl) ?_
  have hPc := hP.sub (ws' := [(h0, .inr (4, [.ref h0_held, .int t_size, .ref h0_survey])), (h0_held, .inl (k_t_held, 24, .inr (.inr (.inr (.inr t_held)))))]) [0, 1] rfl
  have hKc := hK.sub (tys' := [(k_t_held, .object "PointRings$Curve")]) [0] rfl
  refine va_csq (W.runV (As := [.int a1]) (rest := []) ⟨hx, hb, hml, hown, hts⟩ (ctX5_at l N dC dI  h0 h0_held h0_survey k_t_held t_size t_held a1 none hk1) (cwV 1 hts gX5_map_X5_at rfl rfl rfl (by decide +kernel) ⟨Nat.le_of_ble_eq_true rfl, Nat.le_of_ble_eq_true rfl⟩) ⟨fun a U g mk q => by obtain ⟨q0, qP, qK, qN⟩ := q; exact ⟨q0, qP, va_K.moved (u := U) (U := U.calling g mk a) (Vm.Alike.refl U.vm) qK, nw_same (u := U) (U := U.calling g mk a) rfl qN⟩, va_recv hKc hPc (ci := 4) (q0 := 0) rfl rfl, fun U hU hW => ⟨rfl, by rw [hU]; exact hPc, va_K.moved hW.alike hKc, nw_warm hW hN⟩⟩ rfl rfl hl.1 rfl (lv_room (Nat.le_of_ble_eq_true rfl)) dX5_map_8 ⟨Nat.le_of_ble_eq_true rfl, Nat.le_of_ble_eq_true rfl⟩) (fun q9 eq9 => ?_)
  subst q9
  refine lv_astoreN (lv' := [(4, .null), (3, .ref y0), (0, .ref h0), (1, .int a0), (2, .int a1)]) hx hb dX5_map_11 hl (by decide) rfl (fun ls hl => ?_)
  refine lv_aload_n hx hb dX5_map_13 rfl (lv_at hl 1 rfl) ?_
  refine lv_ifnull hx hb dX5_map_14 ?_
  refine lv_aloadN hx hb dX5_map_17 (lv_at hl 0 rfl) ?_
  refine lv_ifnonnullN hx hb dX5_map_19 ?_
  refine lv_bipush (v := (-2)) hx hb dX5_map_22 (by decide) ?_
  have hv : (-2) = rr := Option.some.inj h
  exact W.iret (v := (-2)) hx hb hr (fun t ht hW => ⟨_, rfl, hv, ht⟩) (fun q hq => absurd hq List.not_mem_nil) dX5_map_24
def mX5_map_ss (N : Nat) (y0_p : Int32) (y0_a : Int32) (y0_b : Int32) (a0 : Int32) (a1 : Int32) : Option (Int32) := (mX0_leastMapTo N y0_p y0_a y0_b y0_p y0_a y0_b).bind (fun r3 => some r3)
abbrev rmX5_map_ss : Room := { frames := 1, cells := 0, slots := 0, locals := 24 }
set_option maxHeartbeats 4000000 in
set_option maxRecDepth 100000 in
theorem ctX5_map_ss (l : Launch) (N : Nat) (dC : Nat → ClassId) (dI : Nat → Nat → Nat) (h0 : Nat) (h0_held : Nat) (y0 : Nat) (h0_survey : Nat) (k_t_held : ClassId) (t_size : Int32) (t_held : Nat → Option Nat) (y0_p : Int32) (y0_a : Int32) (y0_b : Int32) (y0_from : Int32) (y0_kernelPoint : Int32) (y0_kernelOrder : Int32) (y0_points : Int32) (y0_inner : Int32) (y0_outer : Int32) (y0_makersFound : Int32) (y0_first : Int32) (y0_second : Int32) (a0 : Int32) (a1 : Int32) (rr : Int32) (h : mX5_map_ss N y0_p y0_a y0_b a0 a1 = some rr) (hk0 : mX5_at N t_size t_held a0 = some (some y0)) (hk1 : mX5_at N t_size t_held a1 = some (some y0)) : Met l yX5_map wsX5_map rmX5_map_ss (va_Pc [.ref h0, .int a0, .int a1] (fun U => va_P (dC, dI) vwCl [(h0, .inr (4, [.ref h0_held, .int t_size, .ref h0_survey])), (h0_held, .inl (k_t_held, 24, .inr (.inr (.inr (.inr t_held))))), (y0, .inr (0, [.int y0_p, .int y0_a, .int y0_b, .int y0_from, .int y0_kernelPoint, .int y0_kernelOrder, .int y0_points, .int y0_inner, .int y0_outer, .int y0_makersFound, .int y0_first, .int y0_second]))] U.heap ∧ va_K (dC, dI) vwCl [(k_t_held, .object "PointRings$Curve")] U ∧ nw_all U)) (vp_Si (fun r => r = rr)) 0 0 (fun _ => False) := by
  refine Met.ofW (cc := cX5_map) (maxL := 5) (ret := (some .int)) (by decide) rfl ?_
  intro p e s m args below meth c s₁ B hml hv
  obtain ⟨rfl, hP, hK, hN⟩ := hv
  have hx := B.exec
  have hb := B.bytes
  have hr := B.returns
  have hts := atoms_spec (ws := wsX5_map) B.pre
  have hown : s.vm.findClass RX5 = some m.cls := findClass_of_methodNamed B.named
  have hlocks := B.notSynchronized
  have hl := lv_entry ([.ref h0, .int a0, .int a1]) (n := 5) (Nat.le_of_ble_eq_true rfl)
  rw [lg_entry_eq]
  generalize (lg_sl ([.ref h0, .int a0, .int a1]) ++ List.replicate (5 - (lg_sl ([.ref h0, .int a0, .int a1])).length) Slot.unset).toArray = ls at hl ⊢
  have hl : lv_has ls 5 [(0, .ref h0), (1, .int a0), (2, .int a1)] := hl
  dsimp only [mX5_map_ss] at h
  refine lv_aload_n hx hb dX5_map_0 rfl (lv_at hl 0 rfl) ?_
  refine lv_iload_n hx hb dX5_map_1 rfl (lv_at hl 1 rfl) ?_
  have hPc := hP.sub (ws' := [(h0, .inr (4, [.ref h0_held, .int t_size, .ref h0_survey])), (h0_held, .inl (k_t_held, 24, .inr (.inr (.inr (.inr t_held)))))]) [0, 1] rfl
  have hKc := hK.sub (tys' := [(k_t_held, .object "PointRings$Curve")]) [0] rfl
  refine va_csq (W.runV (As := [.int a0]) (rest := []) ⟨hx, hb, hml, hown, hts⟩ (ctX5_at l N dC dI  h0 h0_held h0_survey k_t_held t_size t_held a0 (some y0) hk0) (cwV 1 hts gX5_map_X5_at rfl rfl rfl (by decide +kernel) ⟨Nat.le_of_ble_eq_true rfl, Nat.le_of_ble_eq_true rfl⟩) ⟨fun a U g mk q => by obtain ⟨q0, qP, qK, qN⟩ := q; exact ⟨q0, qP, va_K.moved (u := U) (U := U.calling g mk a) (Vm.Alike.refl U.vm) qK, nw_same (u := U) (U := U.calling g mk a) rfl qN⟩, va_recv hKc hPc (ci := 4) (q0 := 0) rfl rfl, fun U hU hW => ⟨rfl, by rw [hU]; exact hPc, va_K.moved hW.alike hKc, nw_warm hW hN⟩⟩ rfl rfl hl.1 rfl (lv_room (Nat.le_of_ble_eq_true rfl)) dX5_map_2 ⟨Nat.le_of_ble_eq_true rfl, Nat.le_of_ble_eq_true rfl⟩) (fun q9 eq9 => ?_)
  subst q9
  refine lv_astore_n (lv' := [(3, .ref y0), (0, .ref h0), (1, .int a0), (2, .int a1)]) hx hb dX5_map_5 rfl hl (by decide) rfl (fun ls hl => ?_)
  refine lv_aload_n hx hb dX5_map_6 rfl (lv_at hl 1 rfl) ?_
  refine lv_iload_n hx hb dX5_map_7 rfl (lv_at hl 3 rfl) ?_
  have hPc := hP.sub (ws' := [(h0, .inr (4, [.ref h0_held, .int t_size, .ref h0_survey])), (h0_held, .inl (k_t_held, 24, .inr (.inr (.inr (.inr t_held)))))]) [0, 1] rfl
  have hKc := hK.sub (tys' := [(k_t_held, .object "PointRings$Curve")]) [0] rfl
  refine va_csq (W.runV (As := [.int a1]) (rest := []) ⟨hx, hb, hml, hown, hts⟩ (ctX5_at l N dC dI  h0 h0_held h0_survey k_t_held t_size t_held a1 (some y0) hk1) (cwV 1 hts gX5_map_X5_at rfl rfl rfl (by decide +kernel) ⟨Nat.le_of_ble_eq_true rfl, Nat.le_of_ble_eq_true rfl⟩) ⟨fun a U g mk q => by obtain ⟨q0, qP, qK, qN⟩ := q; exact ⟨q0, qP, va_K.moved (u := U) (U := U.calling g mk a) (Vm.Alike.refl U.vm) qK, nw_same (u := U) (U := U.calling g mk a) rfl qN⟩, va_recv hKc hPc (ci := 4) (q0 := 0) rfl rfl, fun U hU hW => ⟨rfl, by rw [hU]; exact hPc, va_K.moved hW.alike hKc, nw_warm hW hN⟩⟩ rfl rfl hl.1 rfl (lv_room (Nat.le_of_ble_eq_true rfl)) dX5_map_8 ⟨Nat.le_of_ble_eq_true rfl, Nat.le_of_ble_eq_true rfl⟩) (fun q9 eq9 => ?_)
  subst q9
  refine lv_astore (lv' := [(4, .ref y0), (3, .ref y0), (0, .ref h0), (1, .int a0), (2, .int a1)]) hx hb dX5_map_11 hl (by decide) rfl (fun ls hl => ?_)
  refine lv_aload_n hx hb dX5_map_13 rfl (lv_at hl 1 rfl) ?_
  refine lv_ifnull hx hb dX5_map_14 ?_
  refine lv_aload hx hb dX5_map_17 (lv_at hl 0 rfl) ?_
  refine lv_ifnonnull (tgt := 25) hx hb dX5_map_19 (by decide) ?_
  refine lv_aload_n hx hb dX5_map_25 rfl (lv_at hl 1 rfl) ?_
  refine lv_aload hx hb dX5_map_26 (lv_at hl 0 rfl) ?_
  obtain ⟨r3, hr3, h⟩ := Option.bind_eq_some_iff.mp h
  have hPc := hP.sub (ws' := [(y0, .inr (0, [.int y0_p, .int y0_a, .int y0_b, .int y0_from, .int y0_kernelPoint, .int y0_kernelOrder, .int y0_points, .int y0_inner, .int y0_outer, .int y0_makersFound, .int y0_first, .int y0_second])), (y0, .inr (0, [.int y0_p, .int y0_a, .int y0_b, .int y0_from, .int y0_kernelPoint, .int y0_kernelOrder, .int y0_points, .int y0_inner, .int y0_outer, .int y0_makersFound, .int y0_first, .int y0_second]))]) [2, 2] rfl
  have hKc := hK.sub (tys' := []) [] rfl
  refine vp_callSi (W.runV (As := [.ref y0]) (rest := []) ⟨hx, hb, hml, hown, hts⟩ (ctX0_leastMapTo l N dC dI  y0 y0 y0_p y0_a y0_b y0_from y0_kernelPoint y0_kernelOrder y0_points y0_inner y0_outer y0_makersFound y0_first y0_second y0_p y0_a y0_b y0_from y0_kernelPoint y0_kernelOrder y0_points y0_inner y0_outer y0_makersFound y0_first y0_second r3 hr3) (cwV 1 hts gX5_map_X0_leastMapTo rfl rfl rfl (by decide +kernel) ⟨Nat.le_of_ble_eq_true rfl, Nat.le_of_ble_eq_true rfl⟩) ⟨fun a U g mk q => by obtain ⟨q0, qP, qK, qN⟩ := q; exact ⟨q0, qP, va_K.moved (u := U) (U := U.calling g mk a) (Vm.Alike.refl U.vm) qK, nw_same (u := U) (U := U.calling g mk a) rfl qN⟩, va_recv hKc hPc (ci := 0) (q0 := 0) rfl rfl, fun U hU hW => ⟨rfl, by rw [hU]; exact hPc, va_K.moved hW.alike hKc, nw_warm hW hN⟩⟩ rfl rfl hl.1 rfl (lv_room (Nat.le_of_ble_eq_true rfl)) dX5_map_28 ⟨Nat.le_of_ble_eq_true rfl, Nat.le_of_ble_eq_true rfl⟩) (fun q9 eq9 => ?_)
  subst q9
  have hv : r3 = rr := Option.some.inj h
  exact W.iret (v := r3) hx hb hr (fun t ht hW => ⟨_, rfl, hv, ht⟩) (fun q hq => absurd hq List.not_mem_nil) dX5_map_31
def mX5_map_st (N : Nat) (y0_p : Int32) (y0_a : Int32) (y0_b : Int32) (y1_p : Int32) (y1_a : Int32) (y1_b : Int32) (a0 : Int32) (a1 : Int32) : Option (Int32) := (mX0_leastMapTo N y0_p y0_a y0_b y1_p y1_a y1_b).bind (fun r3 => some r3)
abbrev rmX5_map_st : Room := { frames := 1, cells := 0, slots := 0, locals := 24 }
set_option maxHeartbeats 4000000 in
set_option maxRecDepth 100000 in
theorem ctX5_map_st (l : Launch) (N : Nat) (dC : Nat → ClassId) (dI : Nat → Nat → Nat) (h0 : Nat) (h0_held : Nat) (y0 : Nat) (y1 : Nat) (h0_survey : Nat) (k_t_held : ClassId) (t_size : Int32) (t_held : Nat → Option Nat) (y0_p : Int32) (y0_a : Int32) (y0_b : Int32) (y0_from : Int32) (y0_kernelPoint : Int32) (y0_kernelOrder : Int32) (y0_points : Int32) (y0_inner : Int32) (y0_outer : Int32) (y0_makersFound : Int32) (y0_first : Int32) (y0_second : Int32) (y1_p : Int32) (y1_a : Int32) (y1_b : Int32) (y1_from : Int32) (y1_kernelPoint : Int32) (y1_kernelOrder : Int32) (y1_points : Int32) (y1_inner : Int32) (y1_outer : Int32) (y1_makersFound : Int32) (y1_first : Int32) (y1_second : Int32) (a0 : Int32) (a1 : Int32) (rr : Int32) (h : mX5_map_st N y0_p y0_a y0_b y1_p y1_a y1_b a0 a1 = some rr) (hk0 : mX5_at N t_size t_held a0 = some (some y0)) (hk1 : mX5_at N t_size t_held a1 = some (some y1)) : Met l yX5_map wsX5_map rmX5_map_st (va_Pc [.ref h0, .int a0, .int a1] (fun U => va_P (dC, dI) vwCl [(h0, .inr (4, [.ref h0_held, .int t_size, .ref h0_survey])), (h0_held, .inl (k_t_held, 24, .inr (.inr (.inr (.inr t_held))))), (y0, .inr (0, [.int y0_p, .int y0_a, .int y0_b, .int y0_from, .int y0_kernelPoint, .int y0_kernelOrder, .int y0_points, .int y0_inner, .int y0_outer, .int y0_makersFound, .int y0_first, .int y0_second])), (y1, .inr (0, [.int y1_p, .int y1_a, .int y1_b, .int y1_from, .int y1_kernelPoint, .int y1_kernelOrder, .int y1_points, .int y1_inner, .int y1_outer, .int y1_makersFound, .int y1_first, .int y1_second]))] U.heap ∧ va_K (dC, dI) vwCl [(k_t_held, .object "PointRings$Curve")] U ∧ nw_all U)) (vp_Si (fun r => r = rr)) 0 0 (fun _ => False) := by
  refine Met.ofW (cc := cX5_map) (maxL := 5) (ret := (some .int)) (by decide) rfl ?_
  intro p e s m args below meth c s₁ B hml hv
  obtain ⟨rfl, hP, hK, hN⟩ := hv
  have hx := B.exec
  have hb := B.bytes
  have hr := B.returns
  have hts := atoms_spec (ws := wsX5_map) B.pre
  have hown : s.vm.findClass RX5 = some m.cls := findClass_of_methodNamed B.named
  have hlocks := B.notSynchronized
  have hl := lv_entry ([.ref h0, .int a0, .int a1]) (n := 5) (Nat.le_of_ble_eq_true rfl)
  rw [lg_entry_eq]
  generalize (lg_sl ([.ref h0, .int a0, .int a1]) ++ List.replicate (5 - (lg_sl ([.ref h0, .int a0, .int a1])).length) Slot.unset).toArray = ls at hl ⊢
  have hl : lv_has ls 5 [(0, .ref h0), (1, .int a0), (2, .int a1)] := hl
  dsimp only [mX5_map_st] at h
  refine lv_aload_n hx hb dX5_map_0 rfl (lv_at hl 0 rfl) ?_
  refine lv_iload_n hx hb dX5_map_1 rfl (lv_at hl 1 rfl) ?_
  have hPc := hP.sub (ws' := [(h0, .inr (4, [.ref h0_held, .int t_size, .ref h0_survey])), (h0_held, .inl (k_t_held, 24, .inr (.inr (.inr (.inr t_held)))))]) [0, 1] rfl
  have hKc := hK.sub (tys' := [(k_t_held, .object "PointRings$Curve")]) [0] rfl
  refine va_csq (W.runV (As := [.int a0]) (rest := []) ⟨hx, hb, hml, hown, hts⟩ (ctX5_at l N dC dI  h0 h0_held h0_survey k_t_held t_size t_held a0 (some y0) hk0) (cwV 1 hts gX5_map_X5_at rfl rfl rfl (by decide +kernel) ⟨Nat.le_of_ble_eq_true rfl, Nat.le_of_ble_eq_true rfl⟩) ⟨fun a U g mk q => by obtain ⟨q0, qP, qK, qN⟩ := q; exact ⟨q0, qP, va_K.moved (u := U) (U := U.calling g mk a) (Vm.Alike.refl U.vm) qK, nw_same (u := U) (U := U.calling g mk a) rfl qN⟩, va_recv hKc hPc (ci := 4) (q0 := 0) rfl rfl, fun U hU hW => ⟨rfl, by rw [hU]; exact hPc, va_K.moved hW.alike hKc, nw_warm hW hN⟩⟩ rfl rfl hl.1 rfl (lv_room (Nat.le_of_ble_eq_true rfl)) dX5_map_2 ⟨Nat.le_of_ble_eq_true rfl, Nat.le_of_ble_eq_true rfl⟩) (fun q9 eq9 => ?_)
  subst q9
  refine lv_astore_n (lv' := [(3, .ref y0), (0, .ref h0), (1, .int a0), (2, .int a1)]) hx hb dX5_map_5 rfl hl (by decide) rfl (fun ls hl => ?_)
  refine lv_aload_n hx hb dX5_map_6 rfl (lv_at hl 1 rfl) ?_
  refine lv_iload_n hx hb dX5_map_7 rfl (lv_at hl 3 rfl) ?_
  have hPc := hP.sub (ws' := [(h0, .inr (4, [.ref h0_held, .int t_size, .ref h0_survey])), (h0_held, .inl (k_t_held, 24, .inr (.inr (.inr (.inr t_held)))))]) [0, 1] rfl
  have hKc := hK.sub (tys' := [(k_t_held, .object "PointRings$Curve")]) [0] rfl
  refine va_csq (W.runV (As := [.int a1]) (rest := []) ⟨hx, hb, hml, hown, hts⟩ (ctX5_at l N dC dI  h0 h0_held h0_survey k_t_held t_size t_held a1 (some y1) hk1) (cwV 1 hts gX5_map_X5_at rfl rfl rfl (by decide +kernel) ⟨Nat.le_of_ble_eq_true rfl, Nat.le_of_ble_eq_true rfl⟩) ⟨fun a U g mk q => by obtain ⟨q0, qP, qK, qN⟩ := q; exact ⟨q0, qP, va_K.moved (u := U) (U := U.calling g mk a) (Vm.Alike.refl U.vm) qK, nw_same (u := U) (U := U.calling g mk a) rfl qN⟩, va_recv hKc hPc (ci := 4) (q0 := 0) rfl rfl, fun U hU hW => ⟨rfl, by rw [hU]; exact hPc, va_K.moved hW.alike hKc, nw_warm hW hN⟩⟩ rfl rfl hl.1 rfl (lv_room (Nat.le_of_ble_eq_true rfl)) dX5_map_8 ⟨Nat.le_of_ble_eq_true rfl, Nat.le_of_ble_eq_true rfl⟩) (fun q9 eq9 => ?_)
  subst q9
  refine lv_astore (lv' := [(4, .ref y1), (3, .ref y0), (0, .ref h0), (1, .int a0), (2, .int a1)]) hx hb dX5_map_11 hl (by decide) rfl (fun ls hl => ?_)
  refine lv_aload_n hx hb dX5_map_13 rfl (lv_at hl 1 rfl) ?_
  refine lv_ifnull hx hb dX5_map_14 ?_
  refine lv_aload hx hb dX5_map_17 (lv_at hl 0 rfl) ?_
  refine lv_ifnonnull (tgt := 25) hx hb dX5_map_19 (by decide) ?_
  refine lv_aload_n hx hb dX5_map_25 rfl (lv_at hl 1 rfl) ?_
  refine lv_aload hx hb dX5_map_26 (lv_at hl 0 rfl) ?_
  obtain ⟨r3, hr3, h⟩ := Option.bind_eq_some_iff.mp h
  have hPc := hP.sub (ws' := [(y0, .inr (0, [.int y0_p, .int y0_a, .int y0_b, .int y0_from, .int y0_kernelPoint, .int y0_kernelOrder, .int y0_points, .int y0_inner, .int y0_outer, .int y0_makersFound, .int y0_first, .int y0_second])), (y1, .inr (0, [.int y1_p, .int y1_a, .int y1_b, .int y1_from, .int y1_kernelPoint, .int y1_kernelOrder, .int y1_points, .int y1_inner, .int y1_outer, .int y1_makersFound, .int y1_first, .int y1_second]))]) [2, 3] rfl
  have hKc := hK.sub (tys' := []) [] rfl
  refine vp_callSi (W.runV (As := [.ref y1]) (rest := []) ⟨hx, hb, hml, hown, hts⟩ (ctX0_leastMapTo l N dC dI  y0 y1 y0_p y0_a y0_b y0_from y0_kernelPoint y0_kernelOrder y0_points y0_inner y0_outer y0_makersFound y0_first y0_second y1_p y1_a y1_b y1_from y1_kernelPoint y1_kernelOrder y1_points y1_inner y1_outer y1_makersFound y1_first y1_second r3 hr3) (cwV 1 hts gX5_map_X0_leastMapTo rfl rfl rfl (by decide +kernel) ⟨Nat.le_of_ble_eq_true rfl, Nat.le_of_ble_eq_true rfl⟩) ⟨fun a U g mk q => by obtain ⟨q0, qP, qK, qN⟩ := q; exact ⟨q0, qP, va_K.moved (u := U) (U := U.calling g mk a) (Vm.Alike.refl U.vm) qK, nw_same (u := U) (U := U.calling g mk a) rfl qN⟩, va_recv hKc hPc (ci := 0) (q0 := 0) rfl rfl, fun U hU hW => ⟨rfl, by rw [hU]; exact hPc, va_K.moved hW.alike hKc, nw_warm hW hN⟩⟩ rfl rfl hl.1 rfl (lv_room (Nat.le_of_ble_eq_true rfl)) dX5_map_28 ⟨Nat.le_of_ble_eq_true rfl, Nat.le_of_ble_eq_true rfl⟩) (fun q9 eq9 => ?_)
  subst q9
  have hv : r3 = rr := Option.some.inj h
  exact W.iret (v := r3) hx hb hr (fun t ht hW => ⟨_, rfl, hv, ht⟩) (fun q hq => absurd hq List.not_mem_nil) dX5_map_31
def mX5_inverse_s (N : Nat) (y0_p : Int32) (a0 : Int32) (a1 : Int32) : Option (Int32) := (mJ9_floorMod_7cf53 N a1 y0_p).bind (fun r2 => if r2 = 0 then some (-1) else (mX4_inverted N r2 y0_p).bind (fun r4 => some r4))
abbrev rmX5_inverse_s : Room := { frames := 1, cells := 0, slots := 0, locals := 29 }
set_option maxHeartbeats 4000000 in
set_option maxRecDepth 100000 in
theorem ctX5_inverse_s (l : Launch) (N : Nat) (dC : Nat → ClassId) (dI : Nat → Nat → Nat) (h0 : Nat) (h0_held : Nat) (y0 : Nat) (h0_survey : Nat) (k_t_held : ClassId) (t_size : Int32) (t_held : Nat → Option Nat) (y0_p : Int32) (y0_a : Int32) (y0_b : Int32) (y0_from : Int32) (y0_kernelPoint : Int32) (y0_kernelOrder : Int32) (y0_points : Int32) (y0_inner : Int32) (y0_outer : Int32) (y0_makersFound : Int32) (y0_first : Int32) (y0_second : Int32) (a0 : Int32) (a1 : Int32) (rr : Int32) (h : mX5_inverse_s N y0_p a0 a1 = some rr) (hk0 : mX5_at N t_size t_held a0 = some (some y0)) : Met l yX5_inverse wsX5_inverse rmX5_inverse_s (va_Pc [.ref h0, .int a0, .int a1] (fun U => va_P (dC, dI) vwCl [(h0, .inr (4, [.ref h0_held, .int t_size, .ref h0_survey])), (h0_held, .inl (k_t_held, 24, .inr (.inr (.inr (.inr t_held))))), (y0, .inr (0, [.int y0_p, .int y0_a, .int y0_b, .int y0_from, .int y0_kernelPoint, .int y0_kernelOrder, .int y0_points, .int y0_inner, .int y0_outer, .int y0_makersFound, .int y0_first, .int y0_second]))] U.heap ∧ va_K (dC, dI) vwCl [(k_t_held, .object "PointRings$Curve")] U ∧ nw_all U)) (vp_Si (fun r => r = rr)) 0 0 (fun _ => False) := by
  refine Met.ofW (cc := cX5_inverse) (maxL := 5) (ret := (some .int)) (by decide) rfl ?_
  intro p e s m args below meth c s₁ B hml hv
  obtain ⟨rfl, hP, hK, hN⟩ := hv
  have hx := B.exec
  have hb := B.bytes
  have hr := B.returns
  have hts := atoms_spec (ws := wsX5_inverse) B.pre
  have hown : s.vm.findClass RX5 = some m.cls := findClass_of_methodNamed B.named
  have hlocks := B.notSynchronized
  have hl := lv_entry ([.ref h0, .int a0, .int a1]) (n := 5) (Nat.le_of_ble_eq_true rfl)
  rw [lg_entry_eq]
  generalize (lg_sl ([.ref h0, .int a0, .int a1]) ++ List.replicate (5 - (lg_sl ([.ref h0, .int a0, .int a1])).length) Slot.unset).toArray = ls at hl ⊢
  have hl : lv_has ls 5 [(0, .ref h0), (1, .int a0), (2, .int a1)] := hl
  dsimp only [mX5_inverse_s] at h
  refine lv_aload_n hx hb dX5_inverse_0 rfl (lv_at hl 0 rfl) ?_
  refine lv_iload_n hx hb dX5_inverse_1 rfl (lv_at hl 1 rfl) ?_
  have hPc := hP.sub (ws' := [(h0, .inr (4, [.ref h0_held, .int t_size, .ref h0_survey])), (h0_held, .inl (k_t_held, 24, .inr (.inr (.inr (.inr t_held)))))]) [0, 1] rfl
  have hKc := hK.sub (tys' := [(k_t_held, .object "PointRings$Curve")]) [0] rfl
  refine va_csq (W.runV (As := [.int a0]) (rest := []) ⟨hx, hb, hml, hown, hts⟩ (ctX5_at l N dC dI  h0 h0_held h0_survey k_t_held t_size t_held a0 (some y0) hk0) (cwV 1 hts gX5_inverse_X5_at rfl rfl rfl (by decide +kernel) ⟨Nat.le_of_ble_eq_true rfl, Nat.le_of_ble_eq_true rfl⟩) ⟨fun a U g mk q => by obtain ⟨q0, qP, qK, qN⟩ := q; exact ⟨q0, qP, va_K.moved (u := U) (U := U.calling g mk a) (Vm.Alike.refl U.vm) qK, nw_same (u := U) (U := U.calling g mk a) rfl qN⟩, va_recv hKc hPc (ci := 4) (q0 := 0) rfl rfl, fun U hU hW => ⟨rfl, by rw [hU]; exact hPc, va_K.moved hW.alike hKc, nw_warm hW hN⟩⟩ rfl rfl hl.1 rfl (lv_room (Nat.le_of_ble_eq_true rfl)) dX5_inverse_2 ⟨Nat.le_of_ble_eq_true rfl, Nat.le_of_ble_eq_true rfl⟩) (fun q9 eq9 => ?_)
  subst q9
  refine lv_astore_n (lv' := [(3, .ref y0), (0, .ref h0), (1, .int a0), (2, .int a1)]) hx hb dX5_inverse_5 rfl hl (by decide) rfl (fun ls hl => ?_)
  refine lv_aload_n hx hb dX5_inverse_6 rfl (lv_at hl 0 rfl) ?_
  refine lv_ifnonnull (tgt := 13) hx hb dX5_inverse_7 (by decide) ?_
  refine lv_iload_n hx hb dX5_inverse_13 rfl (lv_at hl 3 rfl) ?_
  refine lv_aload_n hx hb dX5_inverse_14 rfl (lv_at hl 0 rfl) ?_
  refine va_get (D := (dC, dI)) (ci := 0) (v := .int y0_p) (C := RX0) (T := TX0) (N := 12) hx hb hts (by decide +kernel) hown hK hP 2 rfl rfl 0 (by decide) (hts (.fieldLink RX5 51 "PointRings$Curve" "p" "I") (by decide +kernel)) (fun _ h9 => h9) rfl dX5_inverse_15 ?_
  obtain ⟨r2, hr2, h⟩ := Option.bind_eq_some_iff.mp h
  refine vp_callSi (W.runS (As := [.int a1, .int y0_p]) (rest := []) ⟨hx, hb, hml, hown, hts⟩ (ctJ9_floorMod_7cf53 l N  a1 y0_p r2 hr2) (va_cwS 2 hts gX5_inverse_J9_floorMod_7cf53 rfl rfl rfl (by decide +kernel) ⟨Nat.le_of_ble_eq_true rfl, Nat.le_of_ble_eq_true rfl⟩) preEq rfl rfl hl.1 rfl (lv_room (Nat.le_of_ble_eq_true rfl)) dX5_inverse_18 ⟨Nat.le_of_ble_eq_true rfl, Nat.le_of_ble_eq_true rfl⟩) (fun q9 eq9 => ?_)
  subst q9
  refine lv_istore (lv' := [(4, .int r2), (3, .ref y0), (0, .ref h0), (1, .int a0), (2, .int a1)]) hx hb dX5_inverse_21 hl (by decide) rfl (fun ls hl => ?_)
  refine lv_iload hx hb dX5_inverse_23 (lv_at hl 0 rfl) ?_
  refine lv_if_ne (tgt := 32) hx hb dX5_inverse_25 (by decide) (fun c3 => ?_) (fun c3 => ?_)
  · replace h := (if_neg c3).symm.trans h
    refine lv_iload hx hb dX5_inverse_32 (lv_at hl 0 rfl) ?_
    refine lv_aload_n hx hb dX5_inverse_34 rfl (lv_at hl 1 rfl) ?_
    refine va_get (D := (dC, dI)) (ci := 0) (v := .int y0_p) (C := RX0) (T := TX0) (N := 12) hx hb hts (by decide +kernel) hown hK hP 2 rfl rfl 0 (by decide) (hts (.fieldLink RX5 51 "PointRings$Curve" "p" "I") (by decide +kernel)) (fun _ h9 => h9) rfl dX5_inverse_35 ?_
    obtain ⟨r4, hr4, h⟩ := Option.bind_eq_some_iff.mp h
    refine vp_callSi (W.runS (As := [.int r2, .int y0_p]) (rest := []) ⟨hx, hb, hml, hown, hts⟩ (ctX4_inverted l N  r2 y0_p r4 hr4) (va_cwS 2 hts gX5_inverse_X4_inverted rfl rfl rfl (by decide +kernel) ⟨Nat.le_of_ble_eq_true rfl, Nat.le_of_ble_eq_true rfl⟩) preEq rfl rfl hl.1 rfl (lv_room (Nat.le_of_ble_eq_true rfl)) dX5_inverse_38 ⟨Nat.le_of_ble_eq_true rfl, Nat.le_of_ble_eq_true rfl⟩) (fun q9 eq9 => ?_)
    subst q9
    have hv : r4 = rr := Option.some.inj h
    exact W.iret (v := r4) hx hb hr (fun t ht hW => ⟨_, rfl, hv, ht⟩) (fun q hq => absurd hq List.not_mem_nil) dX5_inverse_41
  · replace h := (if_pos c3).symm.trans h
    refine lv_iconst (v := (-1)) hx hb dX5_inverse_28 (by decide) ?_
    refine lv_goto (tgt := 41) hx hb dX5_inverse_29 (by decide) ?_
    have hv : (-1) = rr := Option.some.inj h
    exact W.iret (v := (-1)) hx hb hr (fun t ht hW => ⟨_, rfl, hv, ht⟩) (fun q hq => absurd hq List.not_mem_nil) dX5_inverse_41
def mX5_power_s (N : Nat) (y0_p : Int32) (a0 : Int32) (a1 : Int32) (a2 : Int64) : Option (Int32) := mi_let (lg_cmp a2 0) (fun v2 => if 0 ≤ v2 then (mJ9_floorMod_7cf53 N a1 y0_p).bind (fun r4 => (mX4_raised N r4 a2 y0_p).bind (fun r5 => some r5)) else some (-2))
abbrev rmX5_power_s : Room := { frames := 1, cells := 0, slots := 0, locals := 28 }
set_option maxHeartbeats 4000000 in
set_option maxRecDepth 100000 in
theorem ctX5_power_s (l : Launch) (N : Nat) (dC : Nat → ClassId) (dI : Nat → Nat → Nat) (h0 : Nat) (h0_held : Nat) (y0 : Nat) (h0_survey : Nat) (k_t_held : ClassId) (t_size : Int32) (t_held : Nat → Option Nat) (y0_p : Int32) (y0_a : Int32) (y0_b : Int32) (y0_from : Int32) (y0_kernelPoint : Int32) (y0_kernelOrder : Int32) (y0_points : Int32) (y0_inner : Int32) (y0_outer : Int32) (y0_makersFound : Int32) (y0_first : Int32) (y0_second : Int32) (a0 : Int32) (a1 : Int32) (a2 : Int64) (rr : Int32) (h : mX5_power_s N y0_p a0 a1 a2 = some rr) (hk0 : mX5_at N t_size t_held a0 = some (some y0)) : Met l yX5_power wsX5_power rmX5_power_s (va_Pc [.ref h0, .int a0, .int a1, .long a2] (fun U => va_P (dC, dI) vwCl [(h0, .inr (4, [.ref h0_held, .int t_size, .ref h0_survey])), (h0_held, .inl (k_t_held, 24, .inr (.inr (.inr (.inr t_held))))), (y0, .inr (0, [.int y0_p, .int y0_a, .int y0_b, .int y0_from, .int y0_kernelPoint, .int y0_kernelOrder, .int y0_points, .int y0_inner, .int y0_outer, .int y0_makersFound, .int y0_first, .int y0_second]))] U.heap ∧ va_K (dC, dI) vwCl [(k_t_held, .object "PointRings$Curve")] U ∧ nw_all U)) (vp_Si (fun r => r = rr)) 0 0 (fun _ => False) := by
  refine Met.ofW (cc := cX5_power) (maxL := 6) (ret := (some .int)) (by decide) rfl ?_
  intro p e s m args below meth c s₁ B hml hv
  obtain ⟨rfl, hP, hK, hN⟩ := hv
  have hx := B.exec
  have hb := B.bytes
  have hr := B.returns
  have hts := atoms_spec (ws := wsX5_power) B.pre
  have hown : s.vm.findClass RX5 = some m.cls := findClass_of_methodNamed B.named
  have hlocks := B.notSynchronized
  have hl := lv_entry ([.ref h0, .int a0, .int a1, .long a2]) (n := 6) (Nat.le_of_ble_eq_true rfl)
  rw [lg_entry_eq]
  generalize (lg_sl ([.ref h0, .int a0, .int a1, .long a2]) ++ List.replicate (6 - (lg_sl ([.ref h0, .int a0, .int a1, .long a2])).length) Slot.unset).toArray = ls at hl ⊢
  have hl : lv_has ls 6 [(0, .ref h0), (1, .int a0), (2, .int a1), (3, .long a2)] := hl
  dsimp only [mX5_power_s] at h
  refine lv_aload_n hx hb dX5_power_0 rfl (lv_at hl 0 rfl) ?_
  refine lv_iload_n hx hb dX5_power_1 rfl (lv_at hl 1 rfl) ?_
  have hPc := hP.sub (ws' := [(h0, .inr (4, [.ref h0_held, .int t_size, .ref h0_survey])), (h0_held, .inl (k_t_held, 24, .inr (.inr (.inr (.inr t_held)))))]) [0, 1] rfl
  have hKc := hK.sub (tys' := [(k_t_held, .object "PointRings$Curve")]) [0] rfl
  refine va_csq (W.runV (As := [.int a0]) (rest := []) ⟨hx, hb, hml, hown, hts⟩ (ctX5_at l N dC dI  h0 h0_held h0_survey k_t_held t_size t_held a0 (some y0) hk0) (cwV 1 hts gX5_power_X5_at rfl rfl rfl (by decide +kernel) ⟨Nat.le_of_ble_eq_true rfl, Nat.le_of_ble_eq_true rfl⟩) ⟨fun a U g mk q => by obtain ⟨q0, qP, qK, qN⟩ := q; exact ⟨q0, qP, va_K.moved (u := U) (U := U.calling g mk a) (Vm.Alike.refl U.vm) qK, nw_same (u := U) (U := U.calling g mk a) rfl qN⟩, va_recv hKc hPc (ci := 4) (q0 := 0) rfl rfl, fun U hU hW => ⟨rfl, by rw [hU]; exact hPc, va_K.moved hW.alike hKc, nw_warm hW hN⟩⟩ rfl rfl hl.1 rfl (lv_room (Nat.le_of_ble_eq_true rfl)) dX5_power_2 ⟨Nat.le_of_ble_eq_true rfl, Nat.le_of_ble_eq_true rfl⟩) (fun q9 eq9 => ?_)
  subst q9
  refine lv_astore (lv' := [(5, .ref y0), (0, .ref h0), (1, .int a0), (2, .int a1), (3, .long a2)]) hx hb dX5_power_5 hl (by decide) rfl (fun ls hl => ?_)
  refine lv_aload hx hb dX5_power_7 (lv_at hl 0 rfl) ?_
  refine lv_ifnull hx hb dX5_power_9 ?_
  refine lv_lload_n hx hb dX5_power_12 rfl (lv_at hl 4 rfl) ?_
  refine lv_lconst (v := 0) hx hb dX5_power_13 (by decide) ?_
  refine W.lcmp hx hb dX5_power_14 ?_
  refine lv_topi (fun v2 ev2 => ?_)
  replace h := mi_use ev2 h
  refine lv_if_ge (tgt := 21) hx hb dX5_power_15 (by decide) (fun c3 => ?_) (fun c3 => ?_)
  · replace h := (if_pos c3).symm.trans h
    refine lv_iload_n hx hb dX5_power_21 rfl (lv_at hl 3 rfl) ?_
    refine lv_aload hx hb dX5_power_22 (lv_at hl 0 rfl) ?_
    refine va_get (D := (dC, dI)) (ci := 0) (v := .int y0_p) (C := RX0) (T := TX0) (N := 12) hx hb hts (by decide +kernel) hown hK hP 2 rfl rfl 0 (by decide) (hts (.fieldLink RX5 51 "PointRings$Curve" "p" "I") (by decide +kernel)) (fun _ h9 => h9) rfl dX5_power_24 ?_
    obtain ⟨r4, hr4, h⟩ := Option.bind_eq_some_iff.mp h
    refine vp_callSi (W.runS (As := [.int a1, .int y0_p]) (rest := []) ⟨hx, hb, hml, hown, hts⟩ (ctJ9_floorMod_7cf53 l N  a1 y0_p r4 hr4) (va_cwS 2 hts gX5_power_J9_floorMod_7cf53 rfl rfl rfl (by decide +kernel) ⟨Nat.le_of_ble_eq_true rfl, Nat.le_of_ble_eq_true rfl⟩) preEq rfl rfl hl.1 rfl (lv_room (Nat.le_of_ble_eq_true rfl)) dX5_power_27 ⟨Nat.le_of_ble_eq_true rfl, Nat.le_of_ble_eq_true rfl⟩) (fun q9 eq9 => ?_)
    subst q9
    refine lv_lload_n hx hb dX5_power_30 rfl (lv_at hl 4 rfl) ?_
    refine lv_aload hx hb dX5_power_31 (lv_at hl 0 rfl) ?_
    refine va_get (D := (dC, dI)) (ci := 0) (v := .int y0_p) (C := RX0) (T := TX0) (N := 12) hx hb hts (by decide +kernel) hown hK hP 2 rfl rfl 0 (by decide) (hts (.fieldLink RX5 51 "PointRings$Curve" "p" "I") (by decide +kernel)) (fun _ h9 => h9) rfl dX5_power_33 ?_
    obtain ⟨r5, hr5, h⟩ := Option.bind_eq_some_iff.mp h
    refine vp_callSi (W.runS (As := [.int r4, .long a2, .int y0_p]) (rest := []) ⟨hx, hb, hml, hown, hts⟩ (ctX4_raised l N  r4 a2 y0_p r5 hr5) (va_cwS 3 hts gX5_power_X4_raised rfl rfl rfl (by decide +kernel) ⟨Nat.le_of_ble_eq_true rfl, Nat.le_of_ble_eq_true rfl⟩) preEq rfl rfl hl.1 rfl (lv_room (Nat.le_of_ble_eq_true rfl)) dX5_power_36 ⟨Nat.le_of_ble_eq_true rfl, Nat.le_of_ble_eq_true rfl⟩) (fun q9 eq9 => ?_)
    subst q9
    have hv : r5 = rr := Option.some.inj h
    exact W.iret (v := r5) hx hb hr (fun t ht hW => ⟨_, rfl, hv, ht⟩) (fun q hq => absurd hq List.not_mem_nil) dX5_power_39
  · replace h := (if_neg c3).symm.trans h
    refine lv_bipush (v := (-2)) hx hb dX5_power_18 (by decide) ?_
    have hv : (-2) = rr := Option.some.inj h
    exact W.iret (v := (-2)) hx hb hr (fun t ht hW => ⟨_, rfl, hv, ht⟩) (fun q hq => absurd hq List.not_mem_nil) dX5_power_20
def mX5_point_s (N : Nat) (y0_p : Int32) (y0_a : Int32) (y0_b : Int32) (a0 : Int32) (a1 : Int32) (a2 : Int32) : Option (Int32) := (mX4_isBelow N a1 y0_p).bind (fun r2 => if r2 = 0 then some (-2) else (mX4_isBelow N a2 y0_p).bind (fun r4 => if r4 = 0 then some (-2) else if y0_p = 0 then none else mi_let (mi_rem (a2 * a2) y0_p) (fun v7 => (mX0_cubic N y0_p y0_a y0_b a1).bind (fun r8 => if v7 = r8 then (mX5_pair N a1 a2).bind (fun r10 => some r10) else some (-1)))))
abbrev rmX5_point_s : Room := { frames := 1, cells := 0, slots := 0, locals := 21 }
set_option maxHeartbeats 4000000 in
set_option maxRecDepth 100000 in
theorem ctX5_point_s (l : Launch) (N : Nat) (dC : Nat → ClassId) (dI : Nat → Nat → Nat) (h0 : Nat) (h0_held : Nat) (y0 : Nat) (h0_survey : Nat) (k_t_held : ClassId) (t_size : Int32) (t_held : Nat → Option Nat) (y0_p : Int32) (y0_a : Int32) (y0_b : Int32) (y0_from : Int32) (y0_kernelPoint : Int32) (y0_kernelOrder : Int32) (y0_points : Int32) (y0_inner : Int32) (y0_outer : Int32) (y0_makersFound : Int32) (y0_first : Int32) (y0_second : Int32) (a0 : Int32) (a1 : Int32) (a2 : Int32) (rr : Int32) (h : mX5_point_s N y0_p y0_a y0_b a0 a1 a2 = some rr) (hk0 : mX5_at N t_size t_held a0 = some (some y0)) : Met l yX5_point wsX5_point rmX5_point_s (va_Pc [.ref h0, .int a0, .int a1, .int a2] (fun U => va_P (dC, dI) vwCl [(h0, .inr (4, [.ref h0_held, .int t_size, .ref h0_survey])), (h0_held, .inl (k_t_held, 24, .inr (.inr (.inr (.inr t_held))))), (y0, .inr (0, [.int y0_p, .int y0_a, .int y0_b, .int y0_from, .int y0_kernelPoint, .int y0_kernelOrder, .int y0_points, .int y0_inner, .int y0_outer, .int y0_makersFound, .int y0_first, .int y0_second]))] U.heap ∧ va_K (dC, dI) vwCl [(k_t_held, .object "PointRings$Curve")] U ∧ nw_all U)) (vp_Si (fun r => r = rr)) 0 0 (fun _ => False) := by
  refine Met.ofW (cc := cX5_point) (maxL := 5) (ret := (some .int)) (by decide) rfl ?_
  intro p e s m args below meth c s₁ B hml hv
  obtain ⟨rfl, hP, hK, hN⟩ := hv
  have hx := B.exec
  have hb := B.bytes
  have hr := B.returns
  have hts := atoms_spec (ws := wsX5_point) B.pre
  have hown : s.vm.findClass RX5 = some m.cls := findClass_of_methodNamed B.named
  have hlocks := B.notSynchronized
  have hl := lv_entry ([.ref h0, .int a0, .int a1, .int a2]) (n := 5) (Nat.le_of_ble_eq_true rfl)
  rw [lg_entry_eq]
  generalize (lg_sl ([.ref h0, .int a0, .int a1, .int a2]) ++ List.replicate (5 - (lg_sl ([.ref h0, .int a0, .int a1, .int a2])).length) Slot.unset).toArray = ls at hl ⊢
  have hl : lv_has ls 5 [(0, .ref h0), (1, .int a0), (2, .int a1), (3, .int a2)] := hl
  dsimp only [mX5_point_s] at h
  refine lv_aload_n hx hb dX5_point_0 rfl (lv_at hl 0 rfl) ?_
  refine lv_iload_n hx hb dX5_point_1 rfl (lv_at hl 1 rfl) ?_
  have hPc := hP.sub (ws' := [(h0, .inr (4, [.ref h0_held, .int t_size, .ref h0_survey])), (h0_held, .inl (k_t_held, 24, .inr (.inr (.inr (.inr t_held)))))]) [0, 1] rfl
  have hKc := hK.sub (tys' := [(k_t_held, .object "PointRings$Curve")]) [0] rfl
  refine va_csq (W.runV (As := [.int a0]) (rest := []) ⟨hx, hb, hml, hown, hts⟩ (ctX5_at l N dC dI  h0 h0_held h0_survey k_t_held t_size t_held a0 (some y0) hk0) (cwV 1 hts gX5_point_X5_at rfl rfl rfl (by decide +kernel) ⟨Nat.le_of_ble_eq_true rfl, Nat.le_of_ble_eq_true rfl⟩) ⟨fun a U g mk q => by obtain ⟨q0, qP, qK, qN⟩ := q; exact ⟨q0, qP, va_K.moved (u := U) (U := U.calling g mk a) (Vm.Alike.refl U.vm) qK, nw_same (u := U) (U := U.calling g mk a) rfl qN⟩, va_recv hKc hPc (ci := 4) (q0 := 0) rfl rfl, fun U hU hW => ⟨rfl, by rw [hU]; exact hPc, va_K.moved hW.alike hKc, nw_warm hW hN⟩⟩ rfl rfl hl.1 rfl (lv_room (Nat.le_of_ble_eq_true rfl)) dX5_point_2 ⟨Nat.le_of_ble_eq_true rfl, Nat.le_of_ble_eq_true rfl⟩) (fun q9 eq9 => ?_)
  subst q9
  refine lv_astore (lv' := [(4, .ref y0), (0, .ref h0), (1, .int a0), (2, .int a1), (3, .int a2)]) hx hb dX5_point_5 hl (by decide) rfl (fun ls hl => ?_)
  refine lv_aload hx hb dX5_point_7 (lv_at hl 0 rfl) ?_
  refine lv_ifnull hx hb dX5_point_9 ?_
  refine lv_iload_n hx hb dX5_point_12 rfl (lv_at hl 3 rfl) ?_
  refine lv_aload hx hb dX5_point_13 (lv_at hl 0 rfl) ?_
  refine va_get (D := (dC, dI)) (ci := 0) (v := .int y0_p) (C := RX0) (T := TX0) (N := 12) hx hb hts (by decide +kernel) hown hK hP 2 rfl rfl 0 (by decide) (hts (.fieldLink RX5 51 "PointRings$Curve" "p" "I") (by decide +kernel)) (fun _ h9 => h9) rfl dX5_point_15 ?_
  obtain ⟨r2, hr2, h⟩ := Option.bind_eq_some_iff.mp h
  refine vp_callSi (W.runS (As := [.int a1, .int y0_p]) (rest := []) ⟨hx, hb, hml, hown, hts⟩ (ctX4_isBelow l N  a1 y0_p r2 hr2) (va_cwS 2 hts gX5_point_X4_isBelow rfl rfl rfl (by decide +kernel) ⟨Nat.le_of_ble_eq_true rfl, Nat.le_of_ble_eq_true rfl⟩) preEq rfl rfl hl.1 rfl (lv_room (Nat.le_of_ble_eq_true rfl)) dX5_point_18 ⟨Nat.le_of_ble_eq_true rfl, Nat.le_of_ble_eq_true rfl⟩) (fun q9 eq9 => ?_)
  subst q9
  refine lv_if_eq (tgt := 36) hx hb dX5_point_21 (by decide) (fun c3 => ?_) (fun c3 => ?_)
  · replace h := (if_pos c3).symm.trans h
    refine lv_bipush (v := (-2)) hx hb dX5_point_36 (by decide) ?_
    have hv : (-2) = rr := Option.some.inj h
    exact W.iret (v := (-2)) hx hb hr (fun t ht hW => ⟨_, rfl, hv, ht⟩) (fun q hq => absurd hq List.not_mem_nil) dX5_point_38
  · replace h := (if_neg c3).symm.trans h
    refine lv_iload_n hx hb dX5_point_24 rfl (lv_at hl 4 rfl) ?_
    refine lv_aload hx hb dX5_point_25 (lv_at hl 0 rfl) ?_
    refine va_get (D := (dC, dI)) (ci := 0) (v := .int y0_p) (C := RX0) (T := TX0) (N := 12) hx hb hts (by decide +kernel) hown hK hP 2 rfl rfl 0 (by decide) (hts (.fieldLink RX5 51 "PointRings$Curve" "p" "I") (by decide +kernel)) (fun _ h9 => h9) rfl dX5_point_27 ?_
    obtain ⟨r4, hr4, h⟩ := Option.bind_eq_some_iff.mp h
    refine vp_callSi (W.runS (As := [.int a2, .int y0_p]) (rest := []) ⟨hx, hb, hml, hown, hts⟩ (ctX4_isBelow l N  a2 y0_p r4 hr4) (va_cwS 2 hts gX5_point_X4_isBelow rfl rfl rfl (by decide +kernel) ⟨Nat.le_of_ble_eq_true rfl, Nat.le_of_ble_eq_true rfl⟩) preEq rfl rfl hl.1 rfl (lv_room (Nat.le_of_ble_eq_true rfl)) dX5_point_30 ⟨Nat.le_of_ble_eq_true rfl, Nat.le_of_ble_eq_true rfl⟩) (fun q9 eq9 => ?_)
    subst q9
    refine lv_if_ne (tgt := 39) hx hb dX5_point_33 (by decide) (fun c5 => ?_) (fun c5 => ?_)
    · replace h := (if_neg c5).symm.trans h
      refine lv_iload_n hx hb dX5_point_39 rfl (lv_at hl 4 rfl) ?_
      refine lv_iload_n hx hb dX5_point_40 rfl (lv_at hl 4 rfl) ?_
      refine lv_imul hx hb dX5_point_41 ?_
      refine lv_aload hx hb dX5_point_42 (lv_at hl 0 rfl) ?_
      refine va_get (D := (dC, dI)) (ci := 0) (v := .int y0_p) (C := RX0) (T := TX0) (N := 12) hx hb hts (by decide +kernel) hown hK hP 2 rfl rfl 0 (by decide) (hts (.fieldLink RX5 51 "PointRings$Curve" "p" "I") (by decide +kernel)) (fun _ h9 => h9) rfl dX5_point_44 ?_
      have hn6 : ¬ y0_p = 0 := fun hz => absurd ((if_pos hz).symm.trans h) (fun hh => nomatch hh)
      replace h := (if_neg hn6).symm.trans h
      refine lv_irem hx hb dX5_point_47 hn6 ?_
      refine lv_topi (fun v7 ev7 => ?_)
      replace h := mi_use ev7 h
      refine lv_aload hx hb dX5_point_48 (lv_at hl 0 rfl) ?_
      refine lv_iload_n hx hb dX5_point_50 rfl (lv_at hl 3 rfl) ?_
      obtain ⟨r8, hr8, h⟩ := Option.bind_eq_some_iff.mp h
      have hPc := hP.sub (ws' := [(y0, .inr (0, [.int y0_p, .int y0_a, .int y0_b, .int y0_from, .int y0_kernelPoint, .int y0_kernelOrder, .int y0_points, .int y0_inner, .int y0_outer, .int y0_makersFound, .int y0_first, .int y0_second]))]) [2] rfl
      have hKc := hK.sub (tys' := []) [] rfl
      refine vp_callSi (W.runV (As := [.int a1]) (rest := [.int v7]) ⟨hx, hb, hml, hown, hts⟩ (ctX0_cubic l N dC dI  y0 y0_p y0_a y0_b y0_from y0_kernelPoint y0_kernelOrder y0_points y0_inner y0_outer y0_makersFound y0_first y0_second a1 r8 hr8) (cwV 1 hts gX5_point_X0_cubic rfl rfl rfl (by decide +kernel) ⟨Nat.le_of_ble_eq_true rfl, Nat.le_of_ble_eq_true rfl⟩) ⟨fun a U g mk q => by obtain ⟨q0, qP, qK, qN⟩ := q; exact ⟨q0, qP, va_K.moved (u := U) (U := U.calling g mk a) (Vm.Alike.refl U.vm) qK, nw_same (u := U) (U := U.calling g mk a) rfl qN⟩, va_recv hKc hPc (ci := 0) (q0 := 0) rfl rfl, fun U hU hW => ⟨rfl, by rw [hU]; exact hPc, va_K.moved hW.alike hKc, nw_warm hW hN⟩⟩ rfl rfl hl.1 rfl (lv_room (Nat.le_of_ble_eq_true rfl)) dX5_point_51 ⟨Nat.le_of_ble_eq_true rfl, Nat.le_of_ble_eq_true rfl⟩) (fun q9 eq9 => ?_)
      subst q9
      refine lv_icmp_ne (tgt := 65) hx hb dX5_point_54 (by decide) (fun c9 => ?_) (fun c9 => ?_)
      · replace h := (if_neg c9).symm.trans h
        refine lv_iconst (v := (-1)) hx hb dX5_point_65 (by decide) ?_
        have hv : (-1) = rr := Option.some.inj h
        exact W.iret (v := (-1)) hx hb hr (fun t ht hW => ⟨_, rfl, hv, ht⟩) (fun q hq => absurd hq List.not_mem_nil) dX5_point_66
      · replace h := (if_pos c9).symm.trans h
        refine lv_iload_n hx hb dX5_point_57 rfl (lv_at hl 3 rfl) ?_
        refine lv_iload_n hx hb dX5_point_58 rfl (lv_at hl 4 rfl) ?_
        obtain ⟨r10, hr10, h⟩ := Option.bind_eq_some_iff.mp h
        refine vp_callSi (W.runS (As := [.int a1, .int a2]) (rest := []) ⟨hx, hb, hml, hown, hts⟩ (ctX5_pair l N  a1 a2 r10 hr10) (va_cwS 2 hts gX5_point_X5_pair rfl rfl rfl (by decide +kernel) ⟨Nat.le_of_ble_eq_true rfl, Nat.le_of_ble_eq_true rfl⟩) preEq rfl rfl hl.1 rfl (lv_room (Nat.le_of_ble_eq_true rfl)) dX5_point_59 ⟨Nat.le_of_ble_eq_true rfl, Nat.le_of_ble_eq_true rfl⟩) (fun q9 eq9 => ?_)
        subst q9
        refine lv_goto (tgt := 66) hx hb dX5_point_62 (by decide) ?_
        have hv : r10 = rr := Option.some.inj h
        exact W.iret (v := r10) hx hb hr (fun t ht hW => ⟨_, rfl, hv, ht⟩) (fun q hq => absurd hq List.not_mem_nil) dX5_point_66
    · replace h := (if_pos c5).symm.trans h
      refine lv_bipush (v := (-2)) hx hb dX5_point_36 (by decide) ?_
      have hv : (-2) = rr := Option.some.inj h
      exact W.iret (v := (-2)) hx hb hr (fun t ht hW => ⟨_, rfl, hv, ht⟩) (fun q hq => absurd hq List.not_mem_nil) dX5_point_38
def mX5_bound_s (N : Nat) (y0_p : Int32) (a0 : Int32) (a1 : Int32) : Option (Int32) := if a1 < 0 then some (-2) else if a1 ≤ 1 then (mX4_reachOf N y0_p).bind (fun r4 => if a1 = 0 then some ((y0_p + 1) - r4) else some ((y0_p + 1) + r4)) else some (-2)
abbrev rmX5_bound_s : Room := { frames := 1, cells := 0, slots := 0, locals := 21 }
set_option maxHeartbeats 4000000 in
set_option maxRecDepth 100000 in
theorem ctX5_bound_s (l : Launch) (N : Nat) (dC : Nat → ClassId) (dI : Nat → Nat → Nat) (h0 : Nat) (h0_held : Nat) (y0 : Nat) (h0_survey : Nat) (k_t_held : ClassId) (t_size : Int32) (t_held : Nat → Option Nat) (y0_p : Int32) (y0_a : Int32) (y0_b : Int32) (y0_from : Int32) (y0_kernelPoint : Int32) (y0_kernelOrder : Int32) (y0_points : Int32) (y0_inner : Int32) (y0_outer : Int32) (y0_makersFound : Int32) (y0_first : Int32) (y0_second : Int32) (a0 : Int32) (a1 : Int32) (rr : Int32) (h : mX5_bound_s N y0_p a0 a1 = some rr) (hk0 : mX5_at N t_size t_held a0 = some (some y0)) : Met l yX5_bound wsX5_bound rmX5_bound_s (va_Pc [.ref h0, .int a0, .int a1] (fun U => va_P (dC, dI) vwCl [(h0, .inr (4, [.ref h0_held, .int t_size, .ref h0_survey])), (h0_held, .inl (k_t_held, 24, .inr (.inr (.inr (.inr t_held))))), (y0, .inr (0, [.int y0_p, .int y0_a, .int y0_b, .int y0_from, .int y0_kernelPoint, .int y0_kernelOrder, .int y0_points, .int y0_inner, .int y0_outer, .int y0_makersFound, .int y0_first, .int y0_second]))] U.heap ∧ va_K (dC, dI) vwCl [(k_t_held, .object "PointRings$Curve")] U ∧ nw_all U)) (vp_Si (fun r => r = rr)) 0 0 (fun _ => False) := by
  refine Met.ofW (cc := cX5_bound) (maxL := 5) (ret := (some .int)) (by decide) rfl ?_
  intro p e s m args below meth c s₁ B hml hv
  obtain ⟨rfl, hP, hK, hN⟩ := hv
  have hx := B.exec
  have hb := B.bytes
  have hr := B.returns
  have hts := atoms_spec (ws := wsX5_bound) B.pre
  have hown : s.vm.findClass RX5 = some m.cls := findClass_of_methodNamed B.named
  have hlocks := B.notSynchronized
  have hl := lv_entry ([.ref h0, .int a0, .int a1]) (n := 5) (Nat.le_of_ble_eq_true rfl)
  rw [lg_entry_eq]
  generalize (lg_sl ([.ref h0, .int a0, .int a1]) ++ List.replicate (5 - (lg_sl ([.ref h0, .int a0, .int a1])).length) Slot.unset).toArray = ls at hl ⊢
  have hl : lv_has ls 5 [(0, .ref h0), (1, .int a0), (2, .int a1)] := hl
  dsimp only [mX5_bound_s] at h
  refine lv_aload_n hx hb dX5_bound_0 rfl (lv_at hl 0 rfl) ?_
  refine lv_iload_n hx hb dX5_bound_1 rfl (lv_at hl 1 rfl) ?_
  have hPc := hP.sub (ws' := [(h0, .inr (4, [.ref h0_held, .int t_size, .ref h0_survey])), (h0_held, .inl (k_t_held, 24, .inr (.inr (.inr (.inr t_held)))))]) [0, 1] rfl
  have hKc := hK.sub (tys' := [(k_t_held, .object "PointRings$Curve")]) [0] rfl
  refine va_csq (W.runV (As := [.int a0]) (rest := []) ⟨hx, hb, hml, hown, hts⟩ (ctX5_at l N dC dI  h0 h0_held h0_survey k_t_held t_size t_held a0 (some y0) hk0) (cwV 1 hts gX5_bound_X5_at rfl rfl rfl (by decide +kernel) ⟨Nat.le_of_ble_eq_true rfl, Nat.le_of_ble_eq_true rfl⟩) ⟨fun a U g mk q => by obtain ⟨q0, qP, qK, qN⟩ := q; exact ⟨q0, qP, va_K.moved (u := U) (U := U.calling g mk a) (Vm.Alike.refl U.vm) qK, nw_same (u := U) (U := U.calling g mk a) rfl qN⟩, va_recv hKc hPc (ci := 4) (q0 := 0) rfl rfl, fun U hU hW => ⟨rfl, by rw [hU]; exact hPc, va_K.moved hW.alike hKc, nw_warm hW hN⟩⟩ rfl rfl hl.1 rfl (lv_room (Nat.le_of_ble_eq_true rfl)) dX5_bound_2 ⟨Nat.le_of_ble_eq_true rfl, Nat.le_of_ble_eq_true rfl⟩) (fun q9 eq9 => ?_)
  subst q9
  refine lv_astore_n (lv' := [(3, .ref y0), (0, .ref h0), (1, .int a0), (2, .int a1)]) hx hb dX5_bound_5 rfl hl (by decide) rfl (fun ls hl => ?_)
  refine lv_aload_n hx hb dX5_bound_6 rfl (lv_at hl 0 rfl) ?_
  refine lv_ifnull hx hb dX5_bound_7 ?_
  refine lv_iload_n hx hb dX5_bound_10 rfl (lv_at hl 3 rfl) ?_
  refine lv_if_lt (tgt := 19) hx hb dX5_bound_11 (by decide) (fun c2 => ?_) (fun c2 => ?_)
  · replace h := (if_pos c2).symm.trans h
    refine lv_bipush (v := (-2)) hx hb dX5_bound_19 (by decide) ?_
    have hv : (-2) = rr := Option.some.inj h
    exact W.iret (v := (-2)) hx hb hr (fun t ht hW => ⟨_, rfl, hv, ht⟩) (fun q hq => absurd hq List.not_mem_nil) dX5_bound_21
  · replace h := (if_neg c2).symm.trans h
    refine lv_iload_n hx hb dX5_bound_14 rfl (lv_at hl 3 rfl) ?_
    refine lv_iconst (v := 1) hx hb dX5_bound_15 (by decide) ?_
    refine lv_icmp_le (tgt := 22) hx hb dX5_bound_16 (by decide) (fun c3 => ?_) (fun c3 => ?_)
    · replace h := (if_pos c3).symm.trans h
      refine lv_aload_n hx hb dX5_bound_22 rfl (lv_at hl 0 rfl) ?_
      refine va_get (D := (dC, dI)) (ci := 0) (v := .int y0_p) (C := RX0) (T := TX0) (N := 12) hx hb hts (by decide +kernel) hown hK hP 2 rfl rfl 0 (by decide) (hts (.fieldLink RX5 51 "PointRings$Curve" "p" "I") (by decide +kernel)) (fun _ h9 => h9) rfl dX5_bound_23 ?_
      obtain ⟨r4, hr4, h⟩ := Option.bind_eq_some_iff.mp h
      refine vp_callSi (W.runS (As := [.int y0_p]) (rest := []) ⟨hx, hb, hml, hown, hts⟩ (ctX4_reachOf l N  y0_p r4 hr4) (va_cwS 1 hts gX5_bound_X4_reachOf rfl rfl rfl (by decide +kernel) ⟨Nat.le_of_ble_eq_true rfl, Nat.le_of_ble_eq_true rfl⟩) preEq rfl rfl hl.1 rfl (lv_room (Nat.le_of_ble_eq_true rfl)) dX5_bound_26 ⟨Nat.le_of_ble_eq_true rfl, Nat.le_of_ble_eq_true rfl⟩) (fun q9 eq9 => ?_)
      subst q9
      refine lv_istore (lv' := [(4, .int r4), (3, .ref y0), (0, .ref h0), (1, .int a0), (2, .int a1)]) hx hb dX5_bound_29 hl (by decide) rfl (fun ls hl => ?_)
      refine lv_iload_n hx hb dX5_bound_31 rfl (lv_at hl 4 rfl) ?_
      refine lv_if_ne (tgt := 47) hx hb dX5_bound_32 (by decide) (fun c5 => ?_) (fun c5 => ?_)
      · replace h := (if_neg c5).symm.trans h
        refine lv_aload_n hx hb dX5_bound_47 rfl (lv_at hl 1 rfl) ?_
        refine va_get (D := (dC, dI)) (ci := 0) (v := .int y0_p) (C := RX0) (T := TX0) (N := 12) hx hb hts (by decide +kernel) hown hK hP 2 rfl rfl 0 (by decide) (hts (.fieldLink RX5 51 "PointRings$Curve" "p" "I") (by decide +kernel)) (fun _ h9 => h9) rfl dX5_bound_48 ?_
        refine lv_iconst (v := 1) hx hb dX5_bound_51 (by decide) ?_
        refine lv_iadd hx hb dX5_bound_52 ?_
        refine lv_iload hx hb dX5_bound_53 (lv_at hl 0 rfl) ?_
        refine lv_iadd hx hb dX5_bound_55 ?_
        have hv : (y0_p + 1) + r4 = rr := Option.some.inj h
        exact W.iret (v := ((y0_p + 1) + r4)) hx hb hr (fun t ht hW => ⟨_, rfl, hv, ht⟩) (fun q hq => absurd hq List.not_mem_nil) dX5_bound_56
      · replace h := (if_pos c5).symm.trans h
        refine lv_aload_n hx hb dX5_bound_35 rfl (lv_at hl 1 rfl) ?_
        refine va_get (D := (dC, dI)) (ci := 0) (v := .int y0_p) (C := RX0) (T := TX0) (N := 12) hx hb hts (by decide +kernel) hown hK hP 2 rfl rfl 0 (by decide) (hts (.fieldLink RX5 51 "PointRings$Curve" "p" "I") (by decide +kernel)) (fun _ h9 => h9) rfl dX5_bound_36 ?_
        refine lv_iconst (v := 1) hx hb dX5_bound_39 (by decide) ?_
        refine lv_iadd hx hb dX5_bound_40 ?_
        refine lv_iload hx hb dX5_bound_41 (lv_at hl 0 rfl) ?_
        refine lv_isub hx hb dX5_bound_43 ?_
        refine lv_goto (tgt := 56) hx hb dX5_bound_44 (by decide) ?_
        have hv : (y0_p + 1) - r4 = rr := Option.some.inj h
        exact W.iret (v := ((y0_p + 1) - r4)) hx hb hr (fun t ht hW => ⟨_, rfl, hv, ht⟩) (fun q hq => absurd hq List.not_mem_nil) dX5_bound_56
    · replace h := (if_neg c3).symm.trans h
      refine lv_bipush (v := (-2)) hx hb dX5_bound_19 (by decide) ?_
      have hv : (-2) = rr := Option.some.inj h
      exact W.iret (v := (-2)) hx hb hr (fun t ht hW => ⟨_, rfl, hv, ht⟩) (fun q hq => absurd hq List.not_mem_nil) dX5_bound_21
def mX5_embedding_s (N : Nat) (y0_p : Int32) (a0 : Int32) (a1 : Int32) : Option (Int32) := if a1 < 2 then some (-2) else if a1 ≤ 20000 then if a1 = 0 then none else mi_let (mi_rem y0_p a1) (fun v5 => (mX4_orderModulo N v5 a1).bind (fun r6 => some r6)) else some (-2)
abbrev rmX5_embedding_s : Room := { frames := 2, cells := 0, slots := 0, locals := 48 }
set_option maxHeartbeats 4000000 in
set_option maxRecDepth 100000 in
theorem ctX5_embedding_s (l : Launch) (N : Nat) (dC : Nat → ClassId) (dI : Nat → Nat → Nat) (h0 : Nat) (h0_held : Nat) (y0 : Nat) (h0_survey : Nat) (k_t_held : ClassId) (t_size : Int32) (t_held : Nat → Option Nat) (y0_p : Int32) (y0_a : Int32) (y0_b : Int32) (y0_from : Int32) (y0_kernelPoint : Int32) (y0_kernelOrder : Int32) (y0_points : Int32) (y0_inner : Int32) (y0_outer : Int32) (y0_makersFound : Int32) (y0_first : Int32) (y0_second : Int32) (a0 : Int32) (a1 : Int32) (rr : Int32) (h : mX5_embedding_s N y0_p a0 a1 = some rr) (hk0 : mX5_at N t_size t_held a0 = some (some y0)) : Met l yX5_embedding wsX5_embedding rmX5_embedding_s (va_Pc [.ref h0, .int a0, .int a1] (fun U => va_P (dC, dI) vwCl [(h0, .inr (4, [.ref h0_held, .int t_size, .ref h0_survey])), (h0_held, .inl (k_t_held, 24, .inr (.inr (.inr (.inr t_held))))), (y0, .inr (0, [.int y0_p, .int y0_a, .int y0_b, .int y0_from, .int y0_kernelPoint, .int y0_kernelOrder, .int y0_points, .int y0_inner, .int y0_outer, .int y0_makersFound, .int y0_first, .int y0_second]))] U.heap ∧ va_K (dC, dI) vwCl [(k_t_held, .object "PointRings$Curve")] U ∧ nw_all U)) (vp_Si (fun r => r = rr)) 0 0 (fun _ => False) := by
  refine Met.ofW (cc := cX5_embedding) (maxL := 4) (ret := (some .int)) (by decide) rfl ?_
  intro p e s m args below meth c s₁ B hml hv
  obtain ⟨rfl, hP, hK, hN⟩ := hv
  have hx := B.exec
  have hb := B.bytes
  have hr := B.returns
  have hts := atoms_spec (ws := wsX5_embedding) B.pre
  have hown : s.vm.findClass RX5 = some m.cls := findClass_of_methodNamed B.named
  have hlocks := B.notSynchronized
  have hl := lv_entry ([.ref h0, .int a0, .int a1]) (n := 4) (Nat.le_of_ble_eq_true rfl)
  rw [lg_entry_eq]
  generalize (lg_sl ([.ref h0, .int a0, .int a1]) ++ List.replicate (4 - (lg_sl ([.ref h0, .int a0, .int a1])).length) Slot.unset).toArray = ls at hl ⊢
  have hl : lv_has ls 4 [(0, .ref h0), (1, .int a0), (2, .int a1)] := hl
  dsimp only [mX5_embedding_s] at h
  refine lv_aload_n hx hb dX5_embedding_0 rfl (lv_at hl 0 rfl) ?_
  refine lv_iload_n hx hb dX5_embedding_1 rfl (lv_at hl 1 rfl) ?_
  have hPc := hP.sub (ws' := [(h0, .inr (4, [.ref h0_held, .int t_size, .ref h0_survey])), (h0_held, .inl (k_t_held, 24, .inr (.inr (.inr (.inr t_held)))))]) [0, 1] rfl
  have hKc := hK.sub (tys' := [(k_t_held, .object "PointRings$Curve")]) [0] rfl
  refine va_csq (W.runV (As := [.int a0]) (rest := []) ⟨hx, hb, hml, hown, hts⟩ (ctX5_at l N dC dI  h0 h0_held h0_survey k_t_held t_size t_held a0 (some y0) hk0) (cwV 1 hts gX5_embedding_X5_at rfl rfl rfl (by decide +kernel) ⟨Nat.le_of_ble_eq_true rfl, Nat.le_of_ble_eq_true rfl⟩) ⟨fun a U g mk q => by obtain ⟨q0, qP, qK, qN⟩ := q; exact ⟨q0, qP, va_K.moved (u := U) (U := U.calling g mk a) (Vm.Alike.refl U.vm) qK, nw_same (u := U) (U := U.calling g mk a) rfl qN⟩, va_recv hKc hPc (ci := 4) (q0 := 0) rfl rfl, fun U hU hW => ⟨rfl, by rw [hU]; exact hPc, va_K.moved hW.alike hKc, nw_warm hW hN⟩⟩ rfl rfl hl.1 rfl (lv_room (Nat.le_of_ble_eq_true rfl)) dX5_embedding_2 ⟨Nat.le_of_ble_eq_true rfl, Nat.le_of_ble_eq_true rfl⟩) (fun q9 eq9 => ?_)
  subst q9
  refine lv_astore_n (lv' := [(3, .ref y0), (0, .ref h0), (1, .int a0), (2, .int a1)]) hx hb dX5_embedding_5 rfl hl (by decide) rfl (fun ls hl => ?_)
  refine lv_aload_n hx hb dX5_embedding_6 rfl (lv_at hl 0 rfl) ?_
  refine lv_ifnull hx hb dX5_embedding_7 ?_
  refine lv_iload_n hx hb dX5_embedding_10 rfl (lv_at hl 3 rfl) ?_
  refine lv_iconst (v := 2) hx hb dX5_embedding_11 (by decide) ?_
  refine lv_icmp_lt (tgt := 22) hx hb dX5_embedding_12 (by decide) (fun c2 => ?_) (fun c2 => ?_)
  · replace h := (if_pos c2).symm.trans h
    refine lv_bipush (v := (-2)) hx hb dX5_embedding_22 (by decide) ?_
    have hv : (-2) = rr := Option.some.inj h
    exact W.iret (v := (-2)) hx hb hr (fun t ht hW => ⟨_, rfl, hv, ht⟩) (fun q hq => absurd hq List.not_mem_nil) dX5_embedding_24
  · replace h := (if_neg c2).symm.trans h
    refine lv_iload_n hx hb dX5_embedding_15 rfl (lv_at hl 3 rfl) ?_
    refine lv_sipush (v := 20000) hx hb dX5_embedding_16 (by decide) ?_
    refine lv_icmp_le (tgt := 25) hx hb dX5_embedding_19 (by decide) (fun c3 => ?_) (fun c3 => ?_)
    · replace h := (if_pos c3).symm.trans h
      refine lv_aload_n hx hb dX5_embedding_25 rfl (lv_at hl 0 rfl) ?_
      refine va_get (D := (dC, dI)) (ci := 0) (v := .int y0_p) (C := RX0) (T := TX0) (N := 12) hx hb hts (by decide +kernel) hown hK hP 2 rfl rfl 0 (by decide) (hts (.fieldLink RX5 51 "PointRings$Curve" "p" "I") (by decide +kernel)) (fun _ h9 => h9) rfl dX5_embedding_26 ?_
      refine lv_iload_n hx hb dX5_embedding_29 rfl (lv_at hl 3 rfl) ?_
      have hn4 : ¬ a1 = 0 := fun hz => absurd ((if_pos hz).symm.trans h) (fun hh => nomatch hh)
      replace h := (if_neg hn4).symm.trans h
      refine lv_irem hx hb dX5_embedding_30 hn4 ?_
      refine lv_topi (fun v5 ev5 => ?_)
      replace h := mi_use ev5 h
      refine lv_iload_n hx hb dX5_embedding_31 rfl (lv_at hl 3 rfl) ?_
      obtain ⟨r6, hr6, h⟩ := Option.bind_eq_some_iff.mp h
      refine vp_callSi (W.runS (As := [.int v5, .int a1]) (rest := []) ⟨hx, hb, hml, hown, hts⟩ (ctX4_orderModulo l N  v5 a1 r6 hr6) (va_cwS 2 hts gX5_embedding_X4_orderModulo rfl rfl rfl (by decide +kernel) ⟨Nat.le_of_ble_eq_true rfl, Nat.le_of_ble_eq_true rfl⟩) preEq rfl rfl hl.1 rfl (lv_room (Nat.le_of_ble_eq_true rfl)) dX5_embedding_32 ⟨Nat.le_of_ble_eq_true rfl, Nat.le_of_ble_eq_true rfl⟩) (fun q9 eq9 => ?_)
      subst q9
      have hv : r6 = rr := Option.some.inj h
      exact W.iret (v := r6) hx hb hr (fun t ht hW => ⟨_, rfl, hv, ht⟩) (fun q hq => absurd hq List.not_mem_nil) dX5_embedding_35
    · replace h := (if_neg c3).symm.trans h
      refine lv_bipush (v := (-2)) hx hb dX5_embedding_22 (by decide) ?_
      have hv : (-2) = rr := Option.some.inj h
      exact W.iret (v := (-2)) hx hb hr (fun t ht hW => ⟨_, rfl, hv, ht⟩) (fun q hq => absurd hq List.not_mem_nil) dX5_embedding_24
def mX5_image_z (N : Nat) (a0 : Int32) (a1 : Int32) : Option (Int32) := some (-2)
abbrev rmX5_image_z : Room := { frames := 2, cells := 0, slots := 0, locals := 43 }
set_option maxHeartbeats 4000000 in
set_option maxRecDepth 100000 in
theorem ctX5_image_z (l : Launch) (N : Nat) (dC : Nat → ClassId) (dI : Nat → Nat → Nat) (h0 : Nat) (h0_held : Nat) (y0 : Nat) (h0_survey : Nat) (k_t_held : ClassId) (t_size : Int32) (t_held : Nat → Option Nat) (y0_p : Int32) (y0_a : Int32) (y0_b : Int32) (y0_from : Int32) (y0_kernelPoint : Int32) (y0_kernelOrder : Int32) (y0_points : Int32) (y0_inner : Int32) (y0_outer : Int32) (y0_makersFound : Int32) (y0_first : Int32) (y0_second : Int32) (a0 : Int32) (a1 : Int32) (rr : Int32) (h : mX5_image_z N a0 a1 = some rr) (hk0 : mX5_at N t_size t_held a0 = some (some y0)) (hk1 : mX5_madeByKernel_s N y0 y0_kernelOrder a0 = some none) : Met l yX5_image wsX5_image rmX5_image_z (va_Pc [.ref h0, .int a0, .int a1] (fun U => va_P (dC, dI) vwCl [(h0, .inr (4, [.ref h0_held, .int t_size, .ref h0_survey])), (h0_held, .inl (k_t_held, 24, .inr (.inr (.inr (.inr t_held))))), (y0, .inr (0, [.int y0_p, .int y0_a, .int y0_b, .int y0_from, .int y0_kernelPoint, .int y0_kernelOrder, .int y0_points, .int y0_inner, .int y0_outer, .int y0_makersFound, .int y0_first, .int y0_second]))] U.heap ∧ va_K (dC, dI) vwCl [(k_t_held, .object "PointRings$Curve")] U ∧ nw_all U)) (vp_Si (fun r => r = rr)) 0 0 (fun _ => False) := by
  refine Met.ofW (cc := cX5_image) (maxL := 5) (ret := (some .int)) (by decide) rfl ?_
  intro p e s m args below meth c s₁ B hml hv
  obtain ⟨rfl, hP, hK, hN⟩ := hv
  have hx := B.exec
  have hb := B.bytes
  have hr := B.returns
  have hts := atoms_spec (ws := wsX5_image) B.pre
  have hown : s.vm.findClass RX5 = some m.cls := findClass_of_methodNamed B.named
  have hlocks := B.notSynchronized
  have hl := lv_entry ([.ref h0, .int a0, .int a1]) (n := 5) (Nat.le_of_ble_eq_true rfl)
  rw [lg_entry_eq]
  generalize (lg_sl ([.ref h0, .int a0, .int a1]) ++ List.replicate (5 - (lg_sl ([.ref h0, .int a0, .int a1])).length) Slot.unset).toArray = ls at hl ⊢
  have hl : lv_has ls 5 [(0, .ref h0), (1, .int a0), (2, .int a1)] := hl
  dsimp only [mX5_image_z] at h
  refine lv_aload_n hx hb dX5_image_0 rfl (lv_at hl 0 rfl) ?_
  refine lv_iload_n hx hb dX5_image_1 rfl (lv_at hl 1 rfl) ?_
  have hPc := hP.sub (ws' := [(h0, .inr (4, [.ref h0_held, .int t_size, .ref h0_survey])), (h0_held, .inl (k_t_held, 24, .inr (.inr (.inr (.inr t_held))))), (y0, .inr (0, [.int y0_p, .int y0_a, .int y0_b, .int y0_from, .int y0_kernelPoint, .int y0_kernelOrder, .int y0_points, .int y0_inner, .int y0_outer, .int y0_makersFound, .int y0_first, .int y0_second]))]) [0, 1, 2] rfl
  have hKc := hK.sub (tys' := [(k_t_held, .object "PointRings$Curve")]) [0] rfl
  refine va_csq (W.runV (As := [.int a0]) (rest := []) ⟨hx, hb, hml, hown, hts⟩ (ctX5_madeByKernel_s l N dC dI  h0 h0_held y0 h0_survey k_t_held t_size t_held y0_p y0_a y0_b y0_from y0_kernelPoint y0_kernelOrder y0_points y0_inner y0_outer y0_makersFound y0_first y0_second a0 none hk1 hk0) (cwV 1 hts gX5_image_X5_madeByKernel rfl rfl rfl (by decide +kernel) ⟨Nat.le_of_ble_eq_true rfl, Nat.le_of_ble_eq_true rfl⟩) ⟨fun a U g mk q => by obtain ⟨q0, qP, qK, qN⟩ := q; exact ⟨q0, qP, va_K.moved (u := U) (U := U.calling g mk a) (Vm.Alike.refl U.vm) qK, nw_same (u := U) (U := U.calling g mk a) rfl qN⟩, va_recv hKc hPc (ci := 4) (q0 := 0) rfl rfl, fun U hU hW => ⟨rfl, by rw [hU]; exact hPc, va_K.moved hW.alike hKc, nw_warm hW hN⟩⟩ rfl rfl hl.1 rfl (lv_room (Nat.le_of_ble_eq_true rfl)) dX5_image_2 ⟨Nat.le_of_ble_eq_true rfl, Nat.le_of_ble_eq_true rfl⟩) (fun q9 eq9 => ?_)
  subst q9
  refine lv_astore_nN (lv' := [(3, .null), (0, .ref h0), (1, .int a0), (2, .int a1)]) hx hb dX5_image_5 rfl hl (by decide) rfl (fun ls hl => ?_)
  refine lv_aload_nN hx hb dX5_image_6 rfl (lv_at hl 0 rfl) ?_
  refine lv_ifnonnullN hx hb dX5_image_7 ?_
  refine lv_null hx hb dX5_image_10 ?_
  refine lv_goto (tgt := 22) hx hb dX5_image_11 (by decide) ?_
  refine lv_astoreN (lv' := [(4, .null), (3, .null), (0, .ref h0), (1, .int a0), (2, .int a1)]) hx hb dX5_image_22 hl (by decide) rfl (fun ls hl => ?_)
  refine lv_aloadN hx hb dX5_image_24 (lv_at hl 0 rfl) ?_
  refine lv_ifnullN (tgt := 38) hx hb dX5_image_26 (by decide) ?_
  refine lv_bipush (v := (-2)) hx hb dX5_image_38 (by decide) ?_
  have hv : (-2) = rr := Option.some.inj h
  exact W.iret (v := (-2)) hx hb hr (fun t ht hW => ⟨_, rfl, hv, ht⟩) (fun q hq => absurd hq List.not_mem_nil) dX5_image_40
def mX5_image_sn (N : Nat) (a0 : Int32) (a1 : Int32) : Option (Int32) := some (-2)
abbrev rmX5_image_sn : Room := { frames := 2, cells := 0, slots := 0, locals := 43 }
set_option maxHeartbeats 4000000 in
set_option maxRecDepth 100000 in
theorem ctX5_image_sn (l : Launch) (N : Nat) (dC : Nat → ClassId) (dI : Nat → Nat → Nat) (h0 : Nat) (h0_held : Nat) (y0 : Nat) (h0_survey : Nat) (k_t_held : ClassId) (t_size : Int32) (t_held : Nat → Option Nat) (y0_p : Int32) (y0_a : Int32) (y0_b : Int32) (y0_from : Int32) (y0_kernelPoint : Int32) (y0_kernelOrder : Int32) (y0_points : Int32) (y0_inner : Int32) (y0_outer : Int32) (y0_makersFound : Int32) (y0_first : Int32) (y0_second : Int32) (a0 : Int32) (a1 : Int32) (rr : Int32) (h : mX5_image_sn N a0 a1 = some rr) (hk0 : mX5_at N t_size t_held a0 = some (some y0)) (hk1 : mX5_madeByKernel_s N y0 y0_kernelOrder a0 = some (some y0)) (hk2 : mX5_at N t_size t_held y0_from = some none) : Met l yX5_image wsX5_image rmX5_image_sn (va_Pc [.ref h0, .int a0, .int a1] (fun U => va_P (dC, dI) vwCl [(h0, .inr (4, [.ref h0_held, .int t_size, .ref h0_survey])), (h0_held, .inl (k_t_held, 24, .inr (.inr (.inr (.inr t_held))))), (y0, .inr (0, [.int y0_p, .int y0_a, .int y0_b, .int y0_from, .int y0_kernelPoint, .int y0_kernelOrder, .int y0_points, .int y0_inner, .int y0_outer, .int y0_makersFound, .int y0_first, .int y0_second]))] U.heap ∧ va_K (dC, dI) vwCl [(k_t_held, .object "PointRings$Curve")] U ∧ nw_all U)) (vp_Si (fun r => r = rr)) 0 0 (fun _ => False) := by
  refine Met.ofW (cc := cX5_image) (maxL := 5) (ret := (some .int)) (by decide) rfl ?_
  intro p e s m args below meth c s₁ B hml hv
  obtain ⟨rfl, hP, hK, hN⟩ := hv
  have hx := B.exec
  have hb := B.bytes
  have hr := B.returns
  have hts := atoms_spec (ws := wsX5_image) B.pre
  have hown : s.vm.findClass RX5 = some m.cls := findClass_of_methodNamed B.named
  have hlocks := B.notSynchronized
  have hl := lv_entry ([.ref h0, .int a0, .int a1]) (n := 5) (Nat.le_of_ble_eq_true rfl)
  rw [lg_entry_eq]
  generalize (lg_sl ([.ref h0, .int a0, .int a1]) ++ List.replicate (5 - (lg_sl ([.ref h0, .int a0, .int a1])).length) Slot.unset).toArray = ls at hl ⊢
  have hl : lv_has ls 5 [(0, .ref h0), (1, .int a0), (2, .int a1)] := hl
  dsimp only [mX5_image_sn] at h
  refine lv_aload_n hx hb dX5_image_0 rfl (lv_at hl 0 rfl) ?_
  refine lv_iload_n hx hb dX5_image_1 rfl (lv_at hl 1 rfl) ?_
  have hPc := hP.sub (ws' := [(h0, .inr (4, [.ref h0_held, .int t_size, .ref h0_survey])), (h0_held, .inl (k_t_held, 24, .inr (.inr (.inr (.inr t_held))))), (y0, .inr (0, [.int y0_p, .int y0_a, .int y0_b, .int y0_from, .int y0_kernelPoint, .int y0_kernelOrder, .int y0_points, .int y0_inner, .int y0_outer, .int y0_makersFound, .int y0_first, .int y0_second]))]) [0, 1, 2] rfl
  have hKc := hK.sub (tys' := [(k_t_held, .object "PointRings$Curve")]) [0] rfl
  refine va_csq (W.runV (As := [.int a0]) (rest := []) ⟨hx, hb, hml, hown, hts⟩ (ctX5_madeByKernel_s l N dC dI  h0 h0_held y0 h0_survey k_t_held t_size t_held y0_p y0_a y0_b y0_from y0_kernelPoint y0_kernelOrder y0_points y0_inner y0_outer y0_makersFound y0_first y0_second a0 (some y0) hk1 hk0) (cwV 1 hts gX5_image_X5_madeByKernel rfl rfl rfl (by decide +kernel) ⟨Nat.le_of_ble_eq_true rfl, Nat.le_of_ble_eq_true rfl⟩) ⟨fun a U g mk q => by obtain ⟨q0, qP, qK, qN⟩ := q; exact ⟨q0, qP, va_K.moved (u := U) (U := U.calling g mk a) (Vm.Alike.refl U.vm) qK, nw_same (u := U) (U := U.calling g mk a) rfl qN⟩, va_recv hKc hPc (ci := 4) (q0 := 0) rfl rfl, fun U hU hW => ⟨rfl, by rw [hU]; exact hPc, va_K.moved hW.alike hKc, nw_warm hW hN⟩⟩ rfl rfl hl.1 rfl (lv_room (Nat.le_of_ble_eq_true rfl)) dX5_image_2 ⟨Nat.le_of_ble_eq_true rfl, Nat.le_of_ble_eq_true rfl⟩) (fun q9 eq9 => ?_)
  subst q9
  refine lv_astore_n (lv' := [(3, .ref y0), (0, .ref h0), (1, .int a0), (2, .int a1)]) hx hb dX5_image_5 rfl hl (by decide) rfl (fun ls hl => ?_)
  refine lv_aload_n hx hb dX5_image_6 rfl (lv_at hl 0 rfl) ?_
  refine lv_ifnonnull (tgt := 14) hx hb dX5_image_7 (by decide) ?_
  refine lv_aload_n hx hb dX5_image_14 rfl (lv_at hl 1 rfl) ?_
  refine lv_aload_n hx hb dX5_image_15 rfl (lv_at hl 0 rfl) ?_
  refine va_get (D := (dC, dI)) (ci := 0) (v := .int y0_from) (C := RX0) (T := TX0) (N := 12) hx hb hts (by decide +kernel) hown hK hP 2 rfl rfl 3 (by decide) (hts (.fieldLink RX5 196 "PointRings$Curve" "from" "I") (by decide +kernel)) (fun _ h9 => h9) rfl dX5_image_16 ?_
  have hPc := hP.sub (ws' := [(h0, .inr (4, [.ref h0_held, .int t_size, .ref h0_survey])), (h0_held, .inl (k_t_held, 24, .inr (.inr (.inr (.inr t_held)))))]) [0, 1] rfl
  have hKc := hK.sub (tys' := [(k_t_held, .object "PointRings$Curve")]) [0] rfl
  refine va_csq (W.runV (As := [.int y0_from]) (rest := []) ⟨hx, hb, hml, hown, hts⟩ (ctX5_at l N dC dI  h0 h0_held h0_survey k_t_held t_size t_held y0_from none hk2) (cwV 1 hts gX5_image_X5_at rfl rfl rfl (by decide +kernel) ⟨Nat.le_of_ble_eq_true rfl, Nat.le_of_ble_eq_true rfl⟩) ⟨fun a U g mk q => by obtain ⟨q0, qP, qK, qN⟩ := q; exact ⟨q0, qP, va_K.moved (u := U) (U := U.calling g mk a) (Vm.Alike.refl U.vm) qK, nw_same (u := U) (U := U.calling g mk a) rfl qN⟩, va_recv hKc hPc (ci := 4) (q0 := 0) rfl rfl, fun U hU hW => ⟨rfl, by rw [hU]; exact hPc, va_K.moved hW.alike hKc, nw_warm hW hN⟩⟩ rfl rfl hl.1 rfl (lv_room (Nat.le_of_ble_eq_true rfl)) dX5_image_19 ⟨Nat.le_of_ble_eq_true rfl, Nat.le_of_ble_eq_true rfl⟩) (fun q9 eq9 => ?_)
  subst q9
  refine lv_astoreN (lv' := [(4, .null), (3, .ref y0), (0, .ref h0), (1, .int a0), (2, .int a1)]) hx hb dX5_image_22 hl (by decide) rfl (fun ls hl => ?_)
  refine lv_aloadN hx hb dX5_image_24 (lv_at hl 0 rfl) ?_
  refine lv_ifnullN (tgt := 38) hx hb dX5_image_26 (by decide) ?_
  refine lv_bipush (v := (-2)) hx hb dX5_image_38 (by decide) ?_
  have hv : (-2) = rr := Option.some.inj h
  exact W.iret (v := (-2)) hx hb hr (fun t ht hW => ⟨_, rfl, hv, ht⟩) (fun q hq => absurd hq List.not_mem_nil) dX5_image_40
def mX5_kernel_z (N : Nat) (a0 : Int32) (a1 : Int32) : Option (Int32) := some (-2)
abbrev rmX5_kernel_z : Room := { frames := 2, cells := 0, slots := 0, locals := 43 }
set_option maxHeartbeats 4000000 in
set_option maxRecDepth 100000 in
theorem ctX5_kernel_z (l : Launch) (N : Nat) (dC : Nat → ClassId) (dI : Nat → Nat → Nat) (h0 : Nat) (h0_held : Nat) (y0 : Nat) (h0_survey : Nat) (k_t_held : ClassId) (t_size : Int32) (t_held : Nat → Option Nat) (y0_p : Int32) (y0_a : Int32) (y0_b : Int32) (y0_from : Int32) (y0_kernelPoint : Int32) (y0_kernelOrder : Int32) (y0_points : Int32) (y0_inner : Int32) (y0_outer : Int32) (y0_makersFound : Int32) (y0_first : Int32) (y0_second : Int32) (a0 : Int32) (a1 : Int32) (rr : Int32) (h : mX5_kernel_z N a0 a1 = some rr) (hk0 : mX5_at N t_size t_held a0 = some (some y0)) (hk1 : mX5_madeByKernel_s N y0 y0_kernelOrder a0 = some none) : Met l yX5_kernel wsX5_kernel rmX5_kernel_z (va_Pc [.ref h0, .int a0, .int a1] (fun U => va_P (dC, dI) vwCl [(h0, .inr (4, [.ref h0_held, .int t_size, .ref h0_survey])), (h0_held, .inl (k_t_held, 24, .inr (.inr (.inr (.inr t_held))))), (y0, .inr (0, [.int y0_p, .int y0_a, .int y0_b, .int y0_from, .int y0_kernelPoint, .int y0_kernelOrder, .int y0_points, .int y0_inner, .int y0_outer, .int y0_makersFound, .int y0_first, .int y0_second]))] U.heap ∧ va_K (dC, dI) vwCl [(k_t_held, .object "PointRings$Curve")] U ∧ nw_all U)) (vp_Si (fun r => r = rr)) 0 0 (fun _ => False) := by
  refine Met.ofW (cc := cX5_kernel) (maxL := 4) (ret := (some .int)) (by decide) rfl ?_
  intro p e s m args below meth c s₁ B hml hv
  obtain ⟨rfl, hP, hK, hN⟩ := hv
  have hx := B.exec
  have hb := B.bytes
  have hr := B.returns
  have hts := atoms_spec (ws := wsX5_kernel) B.pre
  have hown : s.vm.findClass RX5 = some m.cls := findClass_of_methodNamed B.named
  have hlocks := B.notSynchronized
  have hl := lv_entry ([.ref h0, .int a0, .int a1]) (n := 4) (Nat.le_of_ble_eq_true rfl)
  rw [lg_entry_eq]
  generalize (lg_sl ([.ref h0, .int a0, .int a1]) ++ List.replicate (4 - (lg_sl ([.ref h0, .int a0, .int a1])).length) Slot.unset).toArray = ls at hl ⊢
  have hl : lv_has ls 4 [(0, .ref h0), (1, .int a0), (2, .int a1)] := hl
  dsimp only [mX5_kernel_z] at h
  refine lv_aload_n hx hb dX5_kernel_0 rfl (lv_at hl 0 rfl) ?_
  refine lv_iload_n hx hb dX5_kernel_1 rfl (lv_at hl 1 rfl) ?_
  have hPc := hP.sub (ws' := [(h0, .inr (4, [.ref h0_held, .int t_size, .ref h0_survey])), (h0_held, .inl (k_t_held, 24, .inr (.inr (.inr (.inr t_held))))), (y0, .inr (0, [.int y0_p, .int y0_a, .int y0_b, .int y0_from, .int y0_kernelPoint, .int y0_kernelOrder, .int y0_points, .int y0_inner, .int y0_outer, .int y0_makersFound, .int y0_first, .int y0_second]))]) [0, 1, 2] rfl
  have hKc := hK.sub (tys' := [(k_t_held, .object "PointRings$Curve")]) [0] rfl
  refine va_csq (W.runV (As := [.int a0]) (rest := []) ⟨hx, hb, hml, hown, hts⟩ (ctX5_madeByKernel_s l N dC dI  h0 h0_held y0 h0_survey k_t_held t_size t_held y0_p y0_a y0_b y0_from y0_kernelPoint y0_kernelOrder y0_points y0_inner y0_outer y0_makersFound y0_first y0_second a0 none hk1 hk0) (cwV 1 hts gX5_kernel_X5_madeByKernel rfl rfl rfl (by decide +kernel) ⟨Nat.le_of_ble_eq_true rfl, Nat.le_of_ble_eq_true rfl⟩) ⟨fun a U g mk q => by obtain ⟨q0, qP, qK, qN⟩ := q; exact ⟨q0, qP, va_K.moved (u := U) (U := U.calling g mk a) (Vm.Alike.refl U.vm) qK, nw_same (u := U) (U := U.calling g mk a) rfl qN⟩, va_recv hKc hPc (ci := 4) (q0 := 0) rfl rfl, fun U hU hW => ⟨rfl, by rw [hU]; exact hPc, va_K.moved hW.alike hKc, nw_warm hW hN⟩⟩ rfl rfl hl.1 rfl (lv_room (Nat.le_of_ble_eq_true rfl)) dX5_kernel_2 ⟨Nat.le_of_ble_eq_true rfl, Nat.le_of_ble_eq_true rfl⟩) (fun q9 eq9 => ?_)
  subst q9
  refine lv_astore_nN (lv' := [(3, .null), (0, .ref h0), (1, .int a0), (2, .int a1)]) hx hb dX5_kernel_5 rfl hl (by decide) rfl (fun ls hl => ?_)
  refine lv_aload_nN hx hb dX5_kernel_6 rfl (lv_at hl 0 rfl) ?_
  refine lv_ifnonnullN hx hb dX5_kernel_7 ?_
  refine lv_bipush (v := (-2)) hx hb dX5_kernel_10 (by decide) ?_
  have hv : (-2) = rr := Option.some.inj h
  exact W.iret (v := (-2)) hx hb hr (fun t ht hW => ⟨_, rfl, hv, ht⟩) (fun q hq => absurd hq List.not_mem_nil) dX5_kernel_12
def mX5_kernel_s (N : Nat) (y0_from : Int32) (y0_kernelPoint : Int32) (y0_kernelOrder : Int32) (a0 : Int32) (a1 : Int32) : Option (Int32) := if a1 = 0 then some y0_from else if a1 = 1 then some y0_kernelPoint else if a1 = 2 then some y0_kernelOrder else some (-2)
abbrev rmX5_kernel_s : Room := { frames := 2, cells := 0, slots := 0, locals := 43 }
set_option maxHeartbeats 4000000 in
set_option maxRecDepth 100000 in
theorem ctX5_kernel_s (l : Launch) (N : Nat) (dC : Nat → ClassId) (dI : Nat → Nat → Nat) (h0 : Nat) (h0_held : Nat) (y0 : Nat) (h0_survey : Nat) (k_t_held : ClassId) (t_size : Int32) (t_held : Nat → Option Nat) (y0_p : Int32) (y0_a : Int32) (y0_b : Int32) (y0_from : Int32) (y0_kernelPoint : Int32) (y0_kernelOrder : Int32) (y0_points : Int32) (y0_inner : Int32) (y0_outer : Int32) (y0_makersFound : Int32) (y0_first : Int32) (y0_second : Int32) (a0 : Int32) (a1 : Int32) (rr : Int32) (h : mX5_kernel_s N y0_from y0_kernelPoint y0_kernelOrder a0 a1 = some rr) (hk0 : mX5_at N t_size t_held a0 = some (some y0)) (hk1 : mX5_madeByKernel_s N y0 y0_kernelOrder a0 = some (some y0)) : Met l yX5_kernel wsX5_kernel rmX5_kernel_s (va_Pc [.ref h0, .int a0, .int a1] (fun U => va_P (dC, dI) vwCl [(h0, .inr (4, [.ref h0_held, .int t_size, .ref h0_survey])), (h0_held, .inl (k_t_held, 24, .inr (.inr (.inr (.inr t_held))))), (y0, .inr (0, [.int y0_p, .int y0_a, .int y0_b, .int y0_from, .int y0_kernelPoint, .int y0_kernelOrder, .int y0_points, .int y0_inner, .int y0_outer, .int y0_makersFound, .int y0_first, .int y0_second]))] U.heap ∧ va_K (dC, dI) vwCl [(k_t_held, .object "PointRings$Curve")] U ∧ nw_all U)) (vp_Si (fun r => r = rr)) 0 0 (fun _ => False) := by
  refine Met.ofW (cc := cX5_kernel) (maxL := 4) (ret := (some .int)) (by decide) rfl ?_
  intro p e s m args below meth c s₁ B hml hv
  obtain ⟨rfl, hP, hK, hN⟩ := hv
  have hx := B.exec
  have hb := B.bytes
  have hr := B.returns
  have hts := atoms_spec (ws := wsX5_kernel) B.pre
  have hown : s.vm.findClass RX5 = some m.cls := findClass_of_methodNamed B.named
  have hlocks := B.notSynchronized
  have hl := lv_entry ([.ref h0, .int a0, .int a1]) (n := 4) (Nat.le_of_ble_eq_true rfl)
  rw [lg_entry_eq]
  generalize (lg_sl ([.ref h0, .int a0, .int a1]) ++ List.replicate (4 - (lg_sl ([.ref h0, .int a0, .int a1])).length) Slot.unset).toArray = ls at hl ⊢
  have hl : lv_has ls 4 [(0, .ref h0), (1, .int a0), (2, .int a1)] := hl
  dsimp only [mX5_kernel_s] at h
  refine lv_aload_n hx hb dX5_kernel_0 rfl (lv_at hl 0 rfl) ?_
  refine lv_iload_n hx hb dX5_kernel_1 rfl (lv_at hl 1 rfl) ?_
  have hPc := hP.sub (ws' := [(h0, .inr (4, [.ref h0_held, .int t_size, .ref h0_survey])), (h0_held, .inl (k_t_held, 24, .inr (.inr (.inr (.inr t_held))))), (y0, .inr (0, [.int y0_p, .int y0_a, .int y0_b, .int y0_from, .int y0_kernelPoint, .int y0_kernelOrder, .int y0_points, .int y0_inner, .int y0_outer, .int y0_makersFound, .int y0_first, .int y0_second]))]) [0, 1, 2] rfl
  have hKc := hK.sub (tys' := [(k_t_held, .object "PointRings$Curve")]) [0] rfl
  refine va_csq (W.runV (As := [.int a0]) (rest := []) ⟨hx, hb, hml, hown, hts⟩ (ctX5_madeByKernel_s l N dC dI  h0 h0_held y0 h0_survey k_t_held t_size t_held y0_p y0_a y0_b y0_from y0_kernelPoint y0_kernelOrder y0_points y0_inner y0_outer y0_makersFound y0_first y0_second a0 (some y0) hk1 hk0) (cwV 1 hts gX5_kernel_X5_madeByKernel rfl rfl rfl (by decide +kernel) ⟨Nat.le_of_ble_eq_true rfl, Nat.le_of_ble_eq_true rfl⟩) ⟨fun a U g mk q => by obtain ⟨q0, qP, qK, qN⟩ := q; exact ⟨q0, qP, va_K.moved (u := U) (U := U.calling g mk a) (Vm.Alike.refl U.vm) qK, nw_same (u := U) (U := U.calling g mk a) rfl qN⟩, va_recv hKc hPc (ci := 4) (q0 := 0) rfl rfl, fun U hU hW => ⟨rfl, by rw [hU]; exact hPc, va_K.moved hW.alike hKc, nw_warm hW hN⟩⟩ rfl rfl hl.1 rfl (lv_room (Nat.le_of_ble_eq_true rfl)) dX5_kernel_2 ⟨Nat.le_of_ble_eq_true rfl, Nat.le_of_ble_eq_true rfl⟩) (fun q9 eq9 => ?_)
  subst q9
  refine lv_astore_n (lv' := [(3, .ref y0), (0, .ref h0), (1, .int a0), (2, .int a1)]) hx hb dX5_kernel_5 rfl hl (by decide) rfl (fun ls hl => ?_)
  refine lv_aload_n hx hb dX5_kernel_6 rfl (lv_at hl 0 rfl) ?_
  refine lv_ifnonnull (tgt := 13) hx hb dX5_kernel_7 (by decide) ?_
  refine lv_iload_n hx hb dX5_kernel_13 rfl (lv_at hl 3 rfl) ?_
  by_cases c2 : a1 = 0
  · replace h := (if_pos c2).symm.trans h
    refine lv_tableIn (off := 26) (tgt := 40) hx hb dX5_kernel_14 (by rw [c2]; decide) (by rw [c2]; decide) (by rw [c2]; rfl) (by decide) ?_
    refine lv_aload_n hx hb dX5_kernel_40 rfl (lv_at hl 0 rfl) ?_
    refine va_get (D := (dC, dI)) (ci := 0) (v := .int y0_from) (C := RX0) (T := TX0) (N := 12) hx hb hts (by decide +kernel) hown hK hP 2 rfl rfl 3 (by decide) (hts (.fieldLink RX5 196 "PointRings$Curve" "from" "I") (by decide +kernel)) (fun _ h9 => h9) rfl dX5_kernel_41 ?_
    have hv : y0_from = rr := Option.some.inj h
    exact W.iret (v := y0_from) hx hb hr (fun t ht hW => ⟨_, rfl, hv, ht⟩) (fun q hq => absurd hq List.not_mem_nil) dX5_kernel_44
  · replace h := (if_neg c2).symm.trans h
    by_cases c3 : a1 = 1
    · replace h := (if_pos c3).symm.trans h
      refine lv_tableIn (off := 31) (tgt := 45) hx hb dX5_kernel_14 (by rw [c3]; decide) (by rw [c3]; decide) (by rw [c3]; rfl) (by decide) ?_
      refine lv_aload_n hx hb dX5_kernel_45 rfl (lv_at hl 0 rfl) ?_
      refine va_get (D := (dC, dI)) (ci := 0) (v := .int y0_kernelPoint) (C := RX0) (T := TX0) (N := 12) hx hb hts (by decide +kernel) hown hK hP 2 rfl rfl 4 (by decide) (hts (.fieldLink RX5 199 "PointRings$Curve" "kernelPoint" "I") (by decide +kernel)) (fun _ h9 => h9) rfl dX5_kernel_46 ?_
      have hv : y0_kernelPoint = rr := Option.some.inj h
      exact W.iret (v := y0_kernelPoint) hx hb hr (fun t ht hW => ⟨_, rfl, hv, ht⟩) (fun q hq => absurd hq List.not_mem_nil) dX5_kernel_49
    · replace h := (if_neg c3).symm.trans h
      by_cases c4 : a1 = 2
      · replace h := (if_pos c4).symm.trans h
        refine lv_tableIn (off := 36) (tgt := 50) hx hb dX5_kernel_14 (by rw [c4]; decide) (by rw [c4]; decide) (by rw [c4]; rfl) (by decide) ?_
        refine lv_aload_n hx hb dX5_kernel_50 rfl (lv_at hl 0 rfl) ?_
        refine va_get (D := (dC, dI)) (ci := 0) (v := .int y0_kernelOrder) (C := RX0) (T := TX0) (N := 12) hx hb hts (by decide +kernel) hown hK hP 2 rfl rfl 5 (by decide) (hts (.fieldLink RX5 202 "PointRings$Curve" "kernelOrder" "I") (by decide +kernel)) (fun _ h9 => h9) rfl dX5_kernel_51 ?_
        have hv : y0_kernelOrder = rr := Option.some.inj h
        exact W.iret (v := y0_kernelOrder) hx hb hr (fun t ht hW => ⟨_, rfl, hv, ht⟩) (fun q hq => absurd hq List.not_mem_nil) dX5_kernel_54
      · replace h := (if_neg c4).symm.trans h
        refine lv_tableOut (tgt := 55) hx hb dX5_kernel_14 (mi_tab a1 2 3 rfl (by decide) ⟨c2, c3, c4, trivial⟩) (by decide) ?_
        refine lv_bipush (v := (-2)) hx hb dX5_kernel_55 (by decide) ?_
        have hv : (-2) = rr := Option.some.inj h
        exact W.iret (v := (-2)) hx hb hr (fun t ht hW => ⟨_, rfl, hv, ht⟩) (fun q hq => absurd hq List.not_mem_nil) dX5_kernel_57
def mX5_told_s (N : Nat) (y0_p : Int32) (y0_a : Int32) (y0_b : Int32) (a0 : Int32) (a1 : Int32) : Option (Int32) := if a1 = 0 then some y0_p else if a1 = 1 then some y0_a else if a1 = 2 then some y0_b else if a1 = 3 then (mX0_invariant N y0_p y0_a y0_b).bind (fun r6 => some r6) else if a1 = 4 then (mX4_cubicMark N y0_a y0_b y0_p).bind (fun r8 => (mJ9_floorMod_7cf53 N ((-16) * r8) y0_p).bind (fun r9 => some r9)) else if a1 = 5 then (mX4_leastNoSquare N y0_p).bind (fun r11 => some r11) else if a1 = 6 then (mX0_selfMaps N y0_p y0_a y0_b).bind (fun r13 => some r13) else some (-2)
abbrev rmX5_told_s : Room := { frames := 2, cells := 0, slots := 0, locals := 50 }
set_option maxHeartbeats 4000000 in
set_option maxRecDepth 100000 in
theorem ctX5_told_s (l : Launch) (N : Nat) (dC : Nat → ClassId) (dI : Nat → Nat → Nat) (h0 : Nat) (h0_held : Nat) (y0 : Nat) (h0_survey : Nat) (k_t_held : ClassId) (t_size : Int32) (t_held : Nat → Option Nat) (y0_p : Int32) (y0_a : Int32) (y0_b : Int32) (y0_from : Int32) (y0_kernelPoint : Int32) (y0_kernelOrder : Int32) (y0_points : Int32) (y0_inner : Int32) (y0_outer : Int32) (y0_makersFound : Int32) (y0_first : Int32) (y0_second : Int32) (a0 : Int32) (a1 : Int32) (rr : Int32) (h : mX5_told_s N y0_p y0_a y0_b a0 a1 = some rr) (hk0 : mX5_at N t_size t_held a0 = some (some y0)) : Met l yX5_told wsX5_told rmX5_told_s (va_Pc [.ref h0, .int a0, .int a1] (fun U => va_P (dC, dI) vwCl [(h0, .inr (4, [.ref h0_held, .int t_size, .ref h0_survey])), (h0_held, .inl (k_t_held, 24, .inr (.inr (.inr (.inr t_held))))), (y0, .inr (0, [.int y0_p, .int y0_a, .int y0_b, .int y0_from, .int y0_kernelPoint, .int y0_kernelOrder, .int y0_points, .int y0_inner, .int y0_outer, .int y0_makersFound, .int y0_first, .int y0_second]))] U.heap ∧ va_K (dC, dI) vwCl [(k_t_held, .object "PointRings$Curve")] U ∧ nw_all U)) (vp_Si (fun r => r = rr)) 0 0 (fun _ => False) := by
  refine Met.ofW (cc := cX5_told) (maxL := 4) (ret := (some .int)) (by decide) rfl ?_
  intro p e s m args below meth c s₁ B hml hv
  obtain ⟨rfl, hP, hK, hN⟩ := hv
  have hx := B.exec
  have hb := B.bytes
  have hr := B.returns
  have hts := atoms_spec (ws := wsX5_told) B.pre
  have hown : s.vm.findClass RX5 = some m.cls := findClass_of_methodNamed B.named
  have hlocks := B.notSynchronized
  have hl := lv_entry ([.ref h0, .int a0, .int a1]) (n := 4) (Nat.le_of_ble_eq_true rfl)
  rw [lg_entry_eq]
  generalize (lg_sl ([.ref h0, .int a0, .int a1]) ++ List.replicate (4 - (lg_sl ([.ref h0, .int a0, .int a1])).length) Slot.unset).toArray = ls at hl ⊢
  have hl : lv_has ls 4 [(0, .ref h0), (1, .int a0), (2, .int a1)] := hl
  dsimp only [mX5_told_s] at h
  refine lv_aload_n hx hb dX5_told_0 rfl (lv_at hl 0 rfl) ?_
  refine lv_iload_n hx hb dX5_told_1 rfl (lv_at hl 1 rfl) ?_
  have hPc := hP.sub (ws' := [(h0, .inr (4, [.ref h0_held, .int t_size, .ref h0_survey])), (h0_held, .inl (k_t_held, 24, .inr (.inr (.inr (.inr t_held)))))]) [0, 1] rfl
  have hKc := hK.sub (tys' := [(k_t_held, .object "PointRings$Curve")]) [0] rfl
  refine va_csq (W.runV (As := [.int a0]) (rest := []) ⟨hx, hb, hml, hown, hts⟩ (ctX5_at l N dC dI  h0 h0_held h0_survey k_t_held t_size t_held a0 (some y0) hk0) (cwV 1 hts gX5_told_X5_at rfl rfl rfl (by decide +kernel) ⟨Nat.le_of_ble_eq_true rfl, Nat.le_of_ble_eq_true rfl⟩) ⟨fun a U g mk q => by obtain ⟨q0, qP, qK, qN⟩ := q; exact ⟨q0, qP, va_K.moved (u := U) (U := U.calling g mk a) (Vm.Alike.refl U.vm) qK, nw_same (u := U) (U := U.calling g mk a) rfl qN⟩, va_recv hKc hPc (ci := 4) (q0 := 0) rfl rfl, fun U hU hW => ⟨rfl, by rw [hU]; exact hPc, va_K.moved hW.alike hKc, nw_warm hW hN⟩⟩ rfl rfl hl.1 rfl (lv_room (Nat.le_of_ble_eq_true rfl)) dX5_told_2 ⟨Nat.le_of_ble_eq_true rfl, Nat.le_of_ble_eq_true rfl⟩) (fun q9 eq9 => ?_)
  subst q9
  refine lv_astore_n (lv' := [(3, .ref y0), (0, .ref h0), (1, .int a0), (2, .int a1)]) hx hb dX5_told_5 rfl hl (by decide) rfl (fun ls hl => ?_)
  refine lv_aload_n hx hb dX5_told_6 rfl (lv_at hl 0 rfl) ?_
  refine lv_ifnonnull (tgt := 13) hx hb dX5_told_7 (by decide) ?_
  refine lv_iload_n hx hb dX5_told_13 rfl (lv_at hl 3 rfl) ?_
  by_cases c2 : a1 = 0
  · replace h := (if_pos c2).symm.trans h
    refine lv_tableIn (off := 42) (tgt := 56) hx hb dX5_told_14 (by rw [c2]; decide) (by rw [c2]; decide) (by rw [c2]; rfl) (by decide) ?_
    refine lv_aload_n hx hb dX5_told_56 rfl (lv_at hl 0 rfl) ?_
    refine va_get (D := (dC, dI)) (ci := 0) (v := .int y0_p) (C := RX0) (T := TX0) (N := 12) hx hb hts (by decide +kernel) hown hK hP 2 rfl rfl 0 (by decide) (hts (.fieldLink RX5 51 "PointRings$Curve" "p" "I") (by decide +kernel)) (fun _ h9 => h9) rfl dX5_told_57 ?_
    have hv : y0_p = rr := Option.some.inj h
    exact W.iret (v := y0_p) hx hb hr (fun t ht hW => ⟨_, rfl, hv, ht⟩) (fun q hq => absurd hq List.not_mem_nil) dX5_told_60
  · replace h := (if_neg c2).symm.trans h
    by_cases c3 : a1 = 1
    · replace h := (if_pos c3).symm.trans h
      refine lv_tableIn (off := 47) (tgt := 61) hx hb dX5_told_14 (by rw [c3]; decide) (by rw [c3]; decide) (by rw [c3]; rfl) (by decide) ?_
      refine lv_aload_n hx hb dX5_told_61 rfl (lv_at hl 0 rfl) ?_
      refine va_get (D := (dC, dI)) (ci := 0) (v := .int y0_a) (C := RX0) (T := TX0) (N := 12) hx hb hts (by decide +kernel) hown hK hP 2 rfl rfl 1 (by decide) (hts (.fieldLink RX5 54 "PointRings$Curve" "a" "I") (by decide +kernel)) (fun _ h9 => h9) rfl dX5_told_62 ?_
      have hv : y0_a = rr := Option.some.inj h
      exact W.iret (v := y0_a) hx hb hr (fun t ht hW => ⟨_, rfl, hv, ht⟩) (fun q hq => absurd hq List.not_mem_nil) dX5_told_65
    · replace h := (if_neg c3).symm.trans h
      by_cases c4 : a1 = 2
      · replace h := (if_pos c4).symm.trans h
        refine lv_tableIn (off := 52) (tgt := 66) hx hb dX5_told_14 (by rw [c4]; decide) (by rw [c4]; decide) (by rw [c4]; rfl) (by decide) ?_
        refine lv_aload_n hx hb dX5_told_66 rfl (lv_at hl 0 rfl) ?_
        refine va_get (D := (dC, dI)) (ci := 0) (v := .int y0_b) (C := RX0) (T := TX0) (N := 12) hx hb hts (by decide +kernel) hown hK hP 2 rfl rfl 2 (by decide) (hts (.fieldLink RX5 57 "PointRings$Curve" "b" "I") (by decide +kernel)) (fun _ h9 => h9) rfl dX5_told_67 ?_
        have hv : y0_b = rr := Option.some.inj h
        exact W.iret (v := y0_b) hx hb hr (fun t ht hW => ⟨_, rfl, hv, ht⟩) (fun q hq => absurd hq List.not_mem_nil) dX5_told_70
      · replace h := (if_neg c4).symm.trans h
        by_cases c5 : a1 = 3
        · replace h := (if_pos c5).symm.trans h
          refine lv_tableIn (off := 57) (tgt := 71) hx hb dX5_told_14 (by rw [c5]; decide) (by rw [c5]; decide) (by rw [c5]; rfl) (by decide) ?_
          refine lv_aload_n hx hb dX5_told_71 rfl (lv_at hl 0 rfl) ?_
          obtain ⟨r6, hr6, h⟩ := Option.bind_eq_some_iff.mp h
          have hPc := hP.sub (ws' := [(y0, .inr (0, [.int y0_p, .int y0_a, .int y0_b, .int y0_from, .int y0_kernelPoint, .int y0_kernelOrder, .int y0_points, .int y0_inner, .int y0_outer, .int y0_makersFound, .int y0_first, .int y0_second]))]) [2] rfl
          have hKc := hK.sub (tys' := []) [] rfl
          refine vp_callSi (W.runV (As := []) (rest := []) ⟨hx, hb, hml, hown, hts⟩ (ctX0_invariant l N dC dI  y0 y0_p y0_a y0_b y0_from y0_kernelPoint y0_kernelOrder y0_points y0_inner y0_outer y0_makersFound y0_first y0_second r6 hr6) (cwV 0 hts gX5_told_X0_invariant rfl rfl rfl (by decide +kernel) ⟨Nat.le_of_ble_eq_true rfl, Nat.le_of_ble_eq_true rfl⟩) ⟨fun a U g mk q => by obtain ⟨q0, qP, qK, qN⟩ := q; exact ⟨q0, qP, va_K.moved (u := U) (U := U.calling g mk a) (Vm.Alike.refl U.vm) qK, nw_same (u := U) (U := U.calling g mk a) rfl qN⟩, va_recv hKc hPc (ci := 0) (q0 := 0) rfl rfl, fun U hU hW => ⟨rfl, by rw [hU]; exact hPc, va_K.moved hW.alike hKc, nw_warm hW hN⟩⟩ rfl rfl hl.1 rfl (lv_room (Nat.le_of_ble_eq_true rfl)) dX5_told_72 ⟨Nat.le_of_ble_eq_true rfl, Nat.le_of_ble_eq_true rfl⟩) (fun q9 eq9 => ?_)
          subst q9
          have hv : r6 = rr := Option.some.inj h
          exact W.iret (v := r6) hx hb hr (fun t ht hW => ⟨_, rfl, hv, ht⟩) (fun q hq => absurd hq List.not_mem_nil) dX5_told_75
        · replace h := (if_neg c5).symm.trans h
          by_cases c7 : a1 = 4
          · replace h := (if_pos c7).symm.trans h
            refine lv_tableIn (off := 62) (tgt := 76) hx hb dX5_told_14 (by rw [c7]; decide) (by rw [c7]; decide) (by rw [c7]; rfl) (by decide) ?_
            refine lv_bipush (v := (-16)) hx hb dX5_told_76 (by decide) ?_
            refine lv_aload_n hx hb dX5_told_78 rfl (lv_at hl 0 rfl) ?_
            refine va_get (D := (dC, dI)) (ci := 0) (v := .int y0_a) (C := RX0) (T := TX0) (N := 12) hx hb hts (by decide +kernel) hown hK hP 2 rfl rfl 1 (by decide) (hts (.fieldLink RX5 54 "PointRings$Curve" "a" "I") (by decide +kernel)) (fun _ h9 => h9) rfl dX5_told_79 ?_
            refine lv_aload_n hx hb dX5_told_82 rfl (lv_at hl 0 rfl) ?_
            refine va_get (D := (dC, dI)) (ci := 0) (v := .int y0_b) (C := RX0) (T := TX0) (N := 12) hx hb hts (by decide +kernel) hown hK hP 2 rfl rfl 2 (by decide) (hts (.fieldLink RX5 57 "PointRings$Curve" "b" "I") (by decide +kernel)) (fun _ h9 => h9) rfl dX5_told_83 ?_
            refine lv_aload_n hx hb dX5_told_86 rfl (lv_at hl 0 rfl) ?_
            refine va_get (D := (dC, dI)) (ci := 0) (v := .int y0_p) (C := RX0) (T := TX0) (N := 12) hx hb hts (by decide +kernel) hown hK hP 2 rfl rfl 0 (by decide) (hts (.fieldLink RX5 51 "PointRings$Curve" "p" "I") (by decide +kernel)) (fun _ h9 => h9) rfl dX5_told_87 ?_
            obtain ⟨r8, hr8, h⟩ := Option.bind_eq_some_iff.mp h
            refine vp_callSi (W.runS (As := [.int y0_a, .int y0_b, .int y0_p]) (rest := [.int (-16)]) ⟨hx, hb, hml, hown, hts⟩ (ctX4_cubicMark l N  y0_a y0_b y0_p r8 hr8) (va_cwS 3 hts gX5_told_X4_cubicMark rfl rfl rfl (by decide +kernel) ⟨Nat.le_of_ble_eq_true rfl, Nat.le_of_ble_eq_true rfl⟩) preEq rfl rfl hl.1 rfl (lv_room (Nat.le_of_ble_eq_true rfl)) dX5_told_90 ⟨Nat.le_of_ble_eq_true rfl, Nat.le_of_ble_eq_true rfl⟩) (fun q9 eq9 => ?_)
            subst q9
            refine lv_imul hx hb dX5_told_93 ?_
            refine lv_aload_n hx hb dX5_told_94 rfl (lv_at hl 0 rfl) ?_
            refine va_get (D := (dC, dI)) (ci := 0) (v := .int y0_p) (C := RX0) (T := TX0) (N := 12) hx hb hts (by decide +kernel) hown hK hP 2 rfl rfl 0 (by decide) (hts (.fieldLink RX5 51 "PointRings$Curve" "p" "I") (by decide +kernel)) (fun _ h9 => h9) rfl dX5_told_95 ?_
            obtain ⟨r9, hr9, h⟩ := Option.bind_eq_some_iff.mp h
            refine vp_callSi (W.runS (As := [.int ((-16) * r8), .int y0_p]) (rest := []) ⟨hx, hb, hml, hown, hts⟩ (ctJ9_floorMod_7cf53 l N  ((-16) * r8) y0_p r9 hr9) (va_cwS 2 hts gX5_told_J9_floorMod_7cf53 rfl rfl rfl (by decide +kernel) ⟨Nat.le_of_ble_eq_true rfl, Nat.le_of_ble_eq_true rfl⟩) preEq rfl rfl hl.1 rfl (lv_room (Nat.le_of_ble_eq_true rfl)) dX5_told_98 ⟨Nat.le_of_ble_eq_true rfl, Nat.le_of_ble_eq_true rfl⟩) (fun q9 eq9 => ?_)
            subst q9
            have hv : r9 = rr := Option.some.inj h
            exact W.iret (v := r9) hx hb hr (fun t ht hW => ⟨_, rfl, hv, ht⟩) (fun q hq => absurd hq List.not_mem_nil) dX5_told_101
          · replace h := (if_neg c7).symm.trans h
            by_cases c10 : a1 = 5
            · replace h := (if_pos c10).symm.trans h
              refine lv_tableIn (off := 88) (tgt := 102) hx hb dX5_told_14 (by rw [c10]; decide) (by rw [c10]; decide) (by rw [c10]; rfl) (by decide) ?_
              refine lv_aload_n hx hb dX5_told_102 rfl (lv_at hl 0 rfl) ?_
              refine va_get (D := (dC, dI)) (ci := 0) (v := .int y0_p) (C := RX0) (T := TX0) (N := 12) hx hb hts (by decide +kernel) hown hK hP 2 rfl rfl 0 (by decide) (hts (.fieldLink RX5 51 "PointRings$Curve" "p" "I") (by decide +kernel)) (fun _ h9 => h9) rfl dX5_told_103 ?_
              obtain ⟨r11, hr11, h⟩ := Option.bind_eq_some_iff.mp h
              refine vp_callSi (W.runS (As := [.int y0_p]) (rest := []) ⟨hx, hb, hml, hown, hts⟩ (ctX4_leastNoSquare l N  y0_p r11 hr11) (va_cwS 1 hts gX5_told_X4_leastNoSquare rfl rfl rfl (by decide +kernel) ⟨Nat.le_of_ble_eq_true rfl, Nat.le_of_ble_eq_true rfl⟩) preEq rfl rfl hl.1 rfl (lv_room (Nat.le_of_ble_eq_true rfl)) dX5_told_106 ⟨Nat.le_of_ble_eq_true rfl, Nat.le_of_ble_eq_true rfl⟩) (fun q9 eq9 => ?_)
              subst q9
              have hv : r11 = rr := Option.some.inj h
              exact W.iret (v := r11) hx hb hr (fun t ht hW => ⟨_, rfl, hv, ht⟩) (fun q hq => absurd hq List.not_mem_nil) dX5_told_109
            · replace h := (if_neg c10).symm.trans h
              by_cases c12 : a1 = 6
              · replace h := (if_pos c12).symm.trans h
                refine lv_tableIn (off := 96) (tgt := 110) hx hb dX5_told_14 (by rw [c12]; decide) (by rw [c12]; decide) (by rw [c12]; rfl) (by decide) ?_
                refine lv_aload_n hx hb dX5_told_110 rfl (lv_at hl 0 rfl) ?_
                obtain ⟨r13, hr13, h⟩ := Option.bind_eq_some_iff.mp h
                have hPc := hP.sub (ws' := [(y0, .inr (0, [.int y0_p, .int y0_a, .int y0_b, .int y0_from, .int y0_kernelPoint, .int y0_kernelOrder, .int y0_points, .int y0_inner, .int y0_outer, .int y0_makersFound, .int y0_first, .int y0_second]))]) [2] rfl
                have hKc := hK.sub (tys' := []) [] rfl
                refine vp_callSi (W.runV (As := []) (rest := []) ⟨hx, hb, hml, hown, hts⟩ (ctX0_selfMaps l N dC dI  y0 y0_p y0_a y0_b y0_from y0_kernelPoint y0_kernelOrder y0_points y0_inner y0_outer y0_makersFound y0_first y0_second r13 hr13) (cwV 0 hts gX5_told_X0_selfMaps rfl rfl rfl (by decide +kernel) ⟨Nat.le_of_ble_eq_true rfl, Nat.le_of_ble_eq_true rfl⟩) ⟨fun a U g mk q => by obtain ⟨q0, qP, qK, qN⟩ := q; exact ⟨q0, qP, va_K.moved (u := U) (U := U.calling g mk a) (Vm.Alike.refl U.vm) qK, nw_same (u := U) (U := U.calling g mk a) rfl qN⟩, va_recv hKc hPc (ci := 0) (q0 := 0) rfl rfl, fun U hU hW => ⟨rfl, by rw [hU]; exact hPc, va_K.moved hW.alike hKc, nw_warm hW hN⟩⟩ rfl rfl hl.1 rfl (lv_room (Nat.le_of_ble_eq_true rfl)) dX5_told_111 ⟨Nat.le_of_ble_eq_true rfl, Nat.le_of_ble_eq_true rfl⟩) (fun q9 eq9 => ?_)
                subst q9
                have hv : r13 = rr := Option.some.inj h
                exact W.iret (v := r13) hx hb hr (fun t ht hW => ⟨_, rfl, hv, ht⟩) (fun q hq => absurd hq List.not_mem_nil) dX5_told_114
              · replace h := (if_neg c12).symm.trans h
                refine lv_tableOut (tgt := 115) hx hb dX5_told_14 (mi_tab a1 6 7 rfl (by decide) ⟨c2, c3, c4, c5, c7, c10, c12, trivial⟩) (by decide) ?_
                refine lv_bipush (v := (-2)) hx hb dX5_told_115 (by decide) ?_
                have hv : (-2) = rr := Option.some.inj h
                exact W.iret (v := (-2)) hx hb hr (fun t ht hW => ⟨_, rfl, hv, ht⟩) (fun q hq => absurd hq List.not_mem_nil) dX5_told_117
def mX5_twist_s (N : Nat) (t_size : Int32) (y0_p : Int32) (y0_a : Int32) (y0_b : Int32) (a0 : Int32) : Option ((Int32 × Int32) ⊕ (Int32 × Int32 × Int32 × Int32 × Int32 × Int32 × Int32 × Int32 × Int32 × Int32 × Int32 × Int32 × Int32 × Int32)) := (mX0_twisted N y0_p y0_a y0_b).bind (fun r2 => match r2 with | (u3, u4, u5, u6, u7, u8, u9, u10, u11, u12, u13, u14) => if t_size < 24 then (mX5_keep_k N t_size).bind (fun r16 => match r16 with | (r18, u17) => some (.inr (r18, u17, u3, u4, u5, u6, u7, u8, u9, u10, u11, u12, u13, u14))) else some (.inl ((-4), t_size)))
abbrev rmX5_twist_s_l : Room := { frames := 3, cells := 1, slots := 12, locals := 71 }
set_option maxHeartbeats 4000000 in
set_option maxRecDepth 100000 in
theorem ctX5_twist_s_l (l : Launch) (N : Nat) (dC : Nat → ClassId) (dI : Nat → Nat → Nat) (sz : Nat) (h0 : Nat) (h0_held : Nat) (y0 : Nat) (h0_survey : Nat) (k_t_held : ClassId) (t_size : Int32) (t_held : Nat → Option Nat) (y0_p : Int32) (y0_a : Int32) (y0_b : Int32) (y0_from : Int32) (y0_kernelPoint : Int32) (y0_kernelOrder : Int32) (y0_points : Int32) (y0_inner : Int32) (y0_outer : Int32) (y0_makersFound : Int32) (y0_first : Int32) (y0_second : Int32) (a0 : Int32) (rr : Int32 × Int32) (h : mX5_twist_s N t_size y0_p y0_a y0_b a0 = some (.inl rr)) (hk0 : mX5_at N t_size t_held a0 = some (some y0)) : Met l yX5_twist wsX5_twist rmX5_twist_s_l (va_Pc [.ref h0, .int a0] (fun U => U.heap.size = sz ∧ va_P (dC, dI) vwCl [(h0, .inr (4, [.ref h0_held, .int t_size, .ref h0_survey])), (h0_held, .inl (k_t_held, 24, .inr (.inr (.inr (.inr t_held))))), (y0, .inr (0, [.int y0_p, .int y0_a, .int y0_b, .int y0_from, .int y0_kernelPoint, .int y0_kernelOrder, .int y0_points, .int y0_inner, .int y0_outer, .int y0_makersFound, .int y0_first, .int y0_second]))] U.heap ∧ va_K (dC, dI) vwCl [(k_t_held, .object "PointRings$Curve")] U ∧ nw_all U ∧ va_D (fun _ => True) [(h0, .inr (4, [.ref h0_held, .int t_size, .ref h0_survey])), (h0_held, .inl (k_t_held, 24, .inr (.inr (.inr (.inr t_held))))), (y0, .inr (0, [.int y0_p, .int y0_a, .int y0_b, .int y0_from, .int y0_kernelPoint, .int y0_kernelOrder, .int y0_points, .int y0_inner, .int y0_outer, .int y0_makersFound, .int y0_first, .int y0_second]))])) (va_Qi (fun (r : Int32) (u : Int32) => (r, u) = rr) (fun (u : Int32) t => match u with | u0 => va_P (dC, dI) vwCl [(h0, .inr (4, [.ref h0_held, .int u0, .ref h0_survey])), (h0_held, .inl (k_t_held, 24, .inr (.inr (.inr (.inr t_held))))), (y0, .inr (0, [.int y0_p, .int y0_a, .int y0_b, .int y0_from, .int y0_kernelPoint, .int y0_kernelOrder, .int y0_points, .int y0_inner, .int y0_outer, .int y0_makersFound, .int y0_first, .int y0_second]))] t.heap ∧ va_K (dC, dI) vwCl [(k_t_held, .object "PointRings$Curve")] t ∧ va_D (va_A [(h0, .inr (4, [.ref h0_held, .int t_size, .ref h0_survey])), (h0_held, .inl (k_t_held, 24, .inr (.inr (.inr (.inr t_held))))), (y0, .inr (0, [.int y0_p, .int y0_a, .int y0_b, .int y0_from, .int y0_kernelPoint, .int y0_kernelOrder, .int y0_points, .int y0_inner, .int y0_outer, .int y0_makersFound, .int y0_first, .int y0_second]))] sz) [(h0, .inr (4, [.ref h0_held, .int u0, .ref h0_survey])), (h0_held, .inl (k_t_held, 24, .inr (.inr (.inr (.inr t_held))))), (y0, .inr (0, [.int y0_p, .int y0_a, .int y0_b, .int y0_from, .int y0_kernelPoint, .int y0_kernelOrder, .int y0_points, .int y0_inner, .int y0_outer, .int y0_makersFound, .int y0_first, .int y0_second]))]) (va_A [(h0, .inr (4, [.ref h0_held, .int t_size, .ref h0_survey])), (h0_held, .inl (k_t_held, 24, .inr (.inr (.inr (.inr t_held))))), (y0, .inr (0, [.int y0_p, .int y0_a, .int y0_b, .int y0_from, .int y0_kernelPoint, .int y0_kernelOrder, .int y0_points, .int y0_inner, .int y0_outer, .int y0_makersFound, .int y0_first, .int y0_second]))] sz)) 1 12 (va_A [(h0, .inr (4, [.ref h0_held, .int t_size, .ref h0_survey])), (h0_held, .inl (k_t_held, 24, .inr (.inr (.inr (.inr t_held))))), (y0, .inr (0, [.int y0_p, .int y0_a, .int y0_b, .int y0_from, .int y0_kernelPoint, .int y0_kernelOrder, .int y0_points, .int y0_inner, .int y0_outer, .int y0_makersFound, .int y0_first, .int y0_second]))] sz) := by
  refine Met.ofW (cc := cX5_twist) (maxL := 3) (ret := (some .int)) (by decide) rfl ?_
  intro p e s m args below meth c s₁ B hml hv
  obtain ⟨rfl, hsz, hP, hK, hN, hD0⟩ := hv
  have hx := B.exec
  have hb := B.bytes
  have hr := B.returns
  have hts := atoms_spec (ws := wsX5_twist) B.pre
  have hown : s.vm.findClass RX5 = some m.cls := findClass_of_methodNamed B.named
  have hlocks := B.notSynchronized
  subst hsz
  have hD := hD0.self (sz := s.heap.size)
  generalize hAe : va_A [(h0, .inr (4, [.ref h0_held, .int t_size, .ref h0_survey])), (h0_held, .inl (k_t_held, 24, .inr (.inr (.inr (.inr t_held))))), (y0, .inr (0, [.int y0_p, .int y0_a, .int y0_b, .int y0_from, .int y0_kernelPoint, .int y0_kernelOrder, .int y0_points, .int y0_inner, .int y0_outer, .int y0_makersFound, .int y0_first, .int y0_second]))] s.heap.size = A at hD ⊢
  have hA0 : ∀ q : Nat, s.heap.size ≤ q → A q := fun q h => by rw [← hAe]; exact Or.inr h
  have hS : va_S A s.heap s.heap [] := va_S.rf
  have hP : va_P (dC, dI) vwCl [(h0, .inr (4, [.ref h0_held, .int t_size, .ref h0_survey])), (h0_held, .inl (k_t_held, 24, .inr (.inr (.inr (.inr t_held))))), (y0, .inr (0, [.int y0_p, .int y0_a, .int y0_b, .int y0_from, .int y0_kernelPoint, .int y0_kernelOrder, .int y0_points, .int y0_inner, .int y0_outer, .int y0_makersFound, .int y0_first, .int y0_second]))] s.heap := hP
  have hl := lv_entry ([.ref h0, .int a0]) (n := 3) (Nat.le_of_ble_eq_true rfl)
  rw [lg_entry_eq]
  generalize (lg_sl ([.ref h0, .int a0]) ++ List.replicate (3 - (lg_sl ([.ref h0, .int a0])).length) Slot.unset).toArray = ls at hl ⊢
  have hl : lv_has ls 3 [(0, .ref h0), (1, .int a0)] := hl
  dsimp only [mX5_twist_s] at h
  refine lv_aload_n hx hb dX5_twist_0 rfl (lv_at hl 0 rfl) ?_
  refine lv_iload_n hx hb dX5_twist_1 rfl (lv_at hl 1 rfl) ?_
  have hPc := hP.sub (ws' := [(h0, .inr (4, [.ref h0_held, .int t_size, .ref h0_survey])), (h0_held, .inl (k_t_held, 24, .inr (.inr (.inr (.inr t_held)))))]) [0, 1] rfl
  have hKc := hK.sub (tys' := [(k_t_held, .object "PointRings$Curve")]) [0] rfl
  refine va_csq (W.runV (As := [.int a0]) (rest := []) ⟨hx, hb, hml, hown, hts⟩ (ctX5_at l N dC dI  h0 h0_held h0_survey k_t_held t_size t_held a0 (some y0) hk0) (cwV 1 hts gX5_twist_X5_at rfl rfl rfl (by decide +kernel) ⟨Nat.le_of_ble_eq_true rfl, Nat.le_of_ble_eq_true rfl⟩) ⟨fun a U g mk q => by obtain ⟨q0, qP, qK, qN⟩ := q; exact ⟨q0, qP, va_K.moved (u := U) (U := U.calling g mk a) (Vm.Alike.refl U.vm) qK, nw_same (u := U) (U := U.calling g mk a) rfl qN⟩, va_recv hKc hPc (ci := 4) (q0 := 0) rfl rfl, fun U hU hW => ⟨rfl, by rw [hU]; exact hPc, va_K.moved hW.alike hKc, nw_warm hW hN⟩⟩ rfl rfl hl.1 rfl (lv_room (Nat.le_of_ble_eq_true rfl)) dX5_twist_2 ⟨Nat.le_of_ble_eq_true rfl, Nat.le_of_ble_eq_true rfl⟩) (fun q9 eq9 => ?_)
  subst q9
  refine lv_astore_n (lv' := [(2, .ref y0), (0, .ref h0), (1, .int a0)]) hx hb dX5_twist_5 rfl hl (by decide) rfl (fun ls hl => ?_)
  refine lv_aload_n hx hb dX5_twist_6 rfl (lv_at hl 0 rfl) ?_
  refine lv_ifnonnull (tgt := 15) hx hb dX5_twist_7 (by decide) ?_
  refine lv_aload_n hx hb dX5_twist_15 rfl (lv_at hl 1 rfl) ?_
  refine lv_aload_n hx hb dX5_twist_16 rfl (lv_at hl 0 rfl) ?_
  obtain ⟨r2, hr2, h⟩ := Option.bind_eq_some_iff.mp h
  have hPc := hP.sub (ws' := [(y0, .inr (0, [.int y0_p, .int y0_a, .int y0_b, .int y0_from, .int y0_kernelPoint, .int y0_kernelOrder, .int y0_points, .int y0_inner, .int y0_outer, .int y0_makersFound, .int y0_first, .int y0_second]))]) [2] rfl
  have hDc := hD.sub (ws' := [(y0, .inr (0, [.int y0_p, .int y0_a, .int y0_b, .int y0_from, .int y0_kernelPoint, .int y0_kernelOrder, .int y0_points, .int y0_inner, .int y0_outer, .int y0_makersFound, .int y0_first, .int y0_second]))]) [2] (by decide) rfl
  have hKc := hK.sub (tys' := []) [] rfl
  have hFc := va_free (wc := [(y0, .inr (0, [.int y0_p, .int y0_a, .int y0_b, .int y0_from, .int y0_kernelPoint, .int y0_kernelOrder, .int y0_points, .int y0_inner, .int y0_outer, .int y0_makersFound, .int y0_first, .int y0_second]))]) hD hS hA0 [2] rfl
  refine va_callr (va_runV (As := []) (rest := [.ref h0]) ⟨hx, hb, hml, hown, hts⟩ (ctX0_twisted l N dC dI _ y0 y0_p y0_a y0_b y0_from y0_kernelPoint y0_kernelOrder y0_points y0_inner y0_outer y0_makersFound y0_first y0_second r2 hr2) (cwV 0 hts gX5_twist_X0_twisted rfl rfl rfl (by decide +kernel) ⟨Nat.le_of_ble_eq_true rfl, Nat.le_of_ble_eq_true rfl⟩) ⟨fun a U g mk q => by obtain ⟨q0, q1, qP, qK, qN, qD⟩ := q; exact ⟨q0, q1, qP, va_K.moved (u := U) (U := U.calling g mk a) (Vm.Alike.refl U.vm) qK, nw_same (u := U) (U := U.calling g mk a) rfl qN, qD⟩, va_recv hKc hPc (ci := 0) (q0 := 0) rfl rfl, fun U hU hW => ⟨rfl, by rw [hU], by rw [hU]; exact hPc, va_K.moved hW.alike hKc, nw_warm hW hN, hDc.weaken (fun _ _ _ _ => trivial)⟩⟩ rfl rfl hl.1 rfl (lv_room (Nat.le_of_ble_eq_true rfl)) dX5_twist_17 ⟨Nat.le_of_ble_eq_true rfl, Nat.le_of_ble_eq_true rfl⟩) hS (fun q _ h => hFc q h) hFc (fun u ra17 t H1 locs ht hvm hw hB1 hz1 hk1 hS => ?_)
  obtain ⟨u3, u4, u5, u6, u7, u8, u9, u10, u11, u12, u13, u14⟩ := u
  obtain ⟨hP1, hK1, hD1⟩ := hB1
  rw [ht] at hP1
  have hK1 := va_K.moved hvm.symm hK1
  subst hw
  try dsimp only at h
  obtain ⟨hP, hD⟩ := va_join (wr := [(h0, .inr (4, [.ref h0_held, .int t_size, .ref h0_survey])), (h0_held, .inl (k_t_held, 24, .inr (.inr (.inr (.inr t_held)))))]) (w1 := [(y0, .inr (0, [.int y0_p, .int y0_a, .int y0_b, .int y0_from, .int y0_kernelPoint, .int y0_kernelOrder, .int y0_points, .int y0_inner, .int y0_outer, .int y0_makersFound, .int y0_first, .int y0_second])), (ra17, .inr (0, [.int u3, .int u4, .int u5, .int u6, .int u7, .int u8, .int u9, .int u10, .int u11, .int u12, .int u13, .int u14]))]) hP hD [2] [0, 1] rfl rfl (by decide) (by decide) hk1 hFc hP1 hD1
  generalize H1 = H at hP hS ⊢
  have hP := hP.sub (ws' := [(h0, .inr (4, [.ref h0_held, .int t_size, .ref h0_survey])), (h0_held, .inl (k_t_held, 24, .inr (.inr (.inr (.inr t_held))))), (y0, .inr (0, [.int y0_p, .int y0_a, .int y0_b, .int y0_from, .int y0_kernelPoint, .int y0_kernelOrder, .int y0_points, .int y0_inner, .int y0_outer, .int y0_makersFound, .int y0_first, .int y0_second])), (ra17, .inr (0, [.int u3, .int u4, .int u5, .int u6, .int u7, .int u8, .int u9, .int u10, .int u11, .int u12, .int u13, .int u14]))]) [0, 1, 2, 3] rfl
  have hD := hD.sub (ws' := [(h0, .inr (4, [.ref h0_held, .int t_size, .ref h0_survey])), (h0_held, .inl (k_t_held, 24, .inr (.inr (.inr (.inr t_held))))), (y0, .inr (0, [.int y0_p, .int y0_a, .int y0_b, .int y0_from, .int y0_kernelPoint, .int y0_kernelOrder, .int y0_points, .int y0_inner, .int y0_outer, .int y0_makersFound, .int y0_first, .int y0_second])), (ra17, .inr (0, [.int u3, .int u4, .int u5, .int u6, .int u7, .int u8, .int u9, .int u10, .int u11, .int u12, .int u13, .int u14]))]) [0, 1, 2, 3] (by decide) rfl
  by_cases c15 : t_size < 24
  · replace h := (if_pos c15).symm.trans h
    obtain ⟨r16, hr16, h⟩ := Option.bind_eq_some_iff.mp h
    have hPc := hP.sub (ws' := [(h0, .inr (4, [.ref h0_held, .int t_size, .ref h0_survey])), (h0_held, .inl (k_t_held, 24, .inr (.inr (.inr (.inr t_held))))), (ra17, .inr (0, [.int u3, .int u4, .int u5, .int u6, .int u7, .int u8, .int u9, .int u10, .int u11, .int u12, .int u13, .int u14]))]) [0, 1, 3] rfl
    have hDc := hD.sub (ws' := [(h0, .inr (4, [.ref h0_held, .int t_size, .ref h0_survey])), (h0_held, .inl (k_t_held, 24, .inr (.inr (.inr (.inr t_held))))), (ra17, .inr (0, [.int u3, .int u4, .int u5, .int u6, .int u7, .int u8, .int u9, .int u10, .int u11, .int u12, .int u13, .int u14]))]) [0, 1, 3] (by decide) rfl
    have hKc := hK.sub (tys' := [(k_t_held, .object "PointRings$Curve")]) [0] rfl
    have hFc := va_free (wc := [(h0, .inr (4, [.ref h0_held, .int t_size, .ref h0_survey])), (h0_held, .inl (k_t_held, 24, .inr (.inr (.inr (.inr t_held))))), (ra17, .inr (0, [.int u3, .int u4, .int u5, .int u6, .int u7, .int u8, .int u9, .int u10, .int u11, .int u12, .int u13, .int u14]))]) hD hS hA0 [0, 1, 3] rfl
    refine va_calli (va_runV (As := [.ref ra17]) (rest := []) ⟨hx, hb, hml, hown, hts⟩ (ctX5_keep_k l N dC dI _ h0 h0_held ra17 h0_survey k_t_held t_size t_held u3 u4 u5 u6 u7 u8 u9 u10 u11 u12 u13 u14 r16 hr16 c15) (cwV 1 hts gX5_twist_X5_keep rfl rfl rfl (by decide +kernel) ⟨Nat.le_of_ble_eq_true rfl, Nat.le_of_ble_eq_true rfl⟩) ⟨fun a U g mk q => by obtain ⟨q0, q1, qP, qK, qN, qD⟩ := q; exact ⟨q0, q1, qP, va_K.moved (u := U) (U := U.calling g mk a) (Vm.Alike.refl U.vm) qK, nw_same (u := U) (U := U.calling g mk a) rfl qN, qD⟩, va_recv hKc hPc (ci := 4) (q0 := 0) rfl rfl, fun U hU hW => ⟨rfl, by rw [hU], by rw [hU]; exact hPc, va_K.moved hW.alike hKc, nw_warm hW hN, hDc.weaken (fun _ _ _ _ => trivial)⟩⟩ rfl rfl hl.1 rfl (lv_room (Nat.le_of_ble_eq_true rfl)) dX5_twist_20 ⟨Nat.le_of_ble_eq_true rfl, Nat.le_of_ble_eq_true rfl⟩) hS (fun q _ h => hFc q h) hFc (fun rz u t H1 locs ht hvm hw hB1 hz1 hk1 hS => ?_)
    obtain ⟨u17, rfl⟩ : ∃ z, z = u := ⟨_, rfl⟩
    obtain ⟨hP1, hK1, hD1⟩ := hB1
    rw [ht] at hP1
    have hK1 := va_K.moved hvm.symm hK1
    obtain ⟨r18, rfl⟩ : ∃ z, z = rz := ⟨_, rfl⟩
    subst hw
    try dsimp only at h
    obtain ⟨hP, hD⟩ := va_join (wr := [(y0, .inr (0, [.int y0_p, .int y0_a, .int y0_b, .int y0_from, .int y0_kernelPoint, .int y0_kernelOrder, .int y0_points, .int y0_inner, .int y0_outer, .int y0_makersFound, .int y0_first, .int y0_second]))]) (w1 := [(h0, .inr (4, [.ref h0_held, .int u17, .ref h0_survey])), (h0_held, .inl (k_t_held, 24, .inr (.inr (.inr (.inr (va_up t_held t_size.toNatClampNeg (some ra17))))))), (ra17, .inr (0, [.int u3, .int u4, .int u5, .int u6, .int u7, .int u8, .int u9, .int u10, .int u11, .int u12, .int u13, .int u14]))]) hP hD [0, 1, 3] [2] rfl rfl (by decide) (by decide) hk1 hFc hP1 hD1
    generalize H1 = H at hP hS ⊢
    have hP := hP.sub (ws' := [(h0, .inr (4, [.ref h0_held, .int u17, .ref h0_survey])), (h0_held, .inl (k_t_held, 24, .inr (.inr (.inr (.inr (va_up t_held t_size.toNatClampNeg (some ra17))))))), (y0, .inr (0, [.int y0_p, .int y0_a, .int y0_b, .int y0_from, .int y0_kernelPoint, .int y0_kernelOrder, .int y0_points, .int y0_inner, .int y0_outer, .int y0_makersFound, .int y0_first, .int y0_second])), (ra17, .inr (0, [.int u3, .int u4, .int u5, .int u6, .int u7, .int u8, .int u9, .int u10, .int u11, .int u12, .int u13, .int u14]))]) [1, 2, 0, 3] rfl
    have hD := hD.sub (ws' := [(h0, .inr (4, [.ref h0_held, .int u17, .ref h0_survey])), (h0_held, .inl (k_t_held, 24, .inr (.inr (.inr (.inr (va_up t_held t_size.toNatClampNeg (some ra17))))))), (y0, .inr (0, [.int y0_p, .int y0_a, .int y0_b, .int y0_from, .int y0_kernelPoint, .int y0_kernelOrder, .int y0_points, .int y0_inner, .int y0_outer, .int y0_makersFound, .int y0_first, .int y0_second])), (ra17, .inr (0, [.int u3, .int u4, .int u5, .int u6, .int u7, .int u8, .int u9, .int u10, .int u11, .int u12, .int u13, .int u14]))]) [1, 2, 0, 3] (by decide) rfl
    exact absurd (Option.some.inj h) (fun hh => nomatch hh)
  · replace h := (if_neg c15).symm.trans h
    have hPc := hP.sub (ws' := [(h0, .inr (4, [.ref h0_held, .int t_size, .ref h0_survey])), (h0_held, .inl (k_t_held, 24, .inr (.inr (.inr (.inr t_held)))))]) [0, 1] rfl
    have hKc := hK.sub (tys' := [(k_t_held, .object "PointRings$Curve")]) [0] rfl
    refine vp_callSi (W.runV (As := [.ref ra17]) (rest := []) ⟨hx, hb, hml, hown, hts⟩ (ctX5_keep_f l N dC dI  h0 h0_held h0_survey ra17 k_t_held t_size t_held (-4) rfl c15) (cwV 1 hts gX5_twist_X5_keep rfl rfl rfl (by decide +kernel) ⟨Nat.le_of_ble_eq_true rfl, Nat.le_of_ble_eq_true rfl⟩) ⟨fun a U g mk q => by obtain ⟨q0, qP, qK, qN⟩ := q; exact ⟨q0, qP, va_K.moved (u := U) (U := U.calling g mk a) (Vm.Alike.refl U.vm) qK, nw_same (u := U) (U := U.calling g mk a) rfl qN⟩, va_recv hKc hPc (ci := 4) (q0 := 0) rfl rfl, fun U hU hW => ⟨rfl, by rw [hU]; exact hPc, va_K.moved hW.alike hKc, nw_warm hW hN⟩⟩ rfl rfl hl.1 rfl (lv_room (Nat.le_of_ble_eq_true rfl)) dX5_twist_20 ⟨Nat.le_of_ble_eq_true rfl, Nat.le_of_ble_eq_true rfl⟩) (fun q9 eq9 => ?_)
    subst q9
    have hv : ((-4), t_size) = rr := Sum.inl.inj (Option.some.inj h)
    have hP9 := hP.sub (ws' := [(h0, .inr (4, [.ref h0_held, .int t_size, .ref h0_survey])), (h0_held, .inl (k_t_held, 24, .inr (.inr (.inr (.inr t_held))))), (y0, .inr (0, [.int y0_p, .int y0_a, .int y0_b, .int y0_from, .int y0_kernelPoint, .int y0_kernelOrder, .int y0_points, .int y0_inner, .int y0_outer, .int y0_makersFound, .int y0_first, .int y0_second]))]) [0, 1, 2] rfl
    have hD9 := hD.sub (ws' := [(h0, .inr (4, [.ref h0_held, .int t_size, .ref h0_survey])), (h0_held, .inl (k_t_held, 24, .inr (.inr (.inr (.inr t_held))))), (y0, .inr (0, [.int y0_p, .int y0_a, .int y0_b, .int y0_from, .int y0_kernelPoint, .int y0_kernelOrder, .int y0_points, .int y0_inner, .int y0_outer, .int y0_makersFound, .int y0_first, .int y0_second]))]) [0, 1, 2] (by decide) rfl
    have hK9 := hK.sub (tys' := [(k_t_held, .object "PointRings$Curve")]) [0] rfl
    refine W.widen (k := 1) (n := 12) (by decide +kernel) (by decide +kernel) ?_
    exact W.iret (v := (-4)) hx hb hr (fun t ht hW => ⟨⟨(-4), t_size, rfl, hv, by rw [ht]; exact hP9, va_K.moved hW.alike hK9, hD9⟩, hS.F ht⟩) hS.2.2 dX5_twist_23
abbrev rmX5_twist_s_r : Room := { frames := 3, cells := 1, slots := 12, locals := 71 }
set_option maxHeartbeats 4000000 in
set_option maxRecDepth 100000 in
theorem ctX5_twist_s_r (l : Launch) (N : Nat) (dC : Nat → ClassId) (dI : Nat → Nat → Nat) (sz : Nat) (h0 : Nat) (h0_held : Nat) (y0 : Nat) (h0_survey : Nat) (k_t_held : ClassId) (t_size : Int32) (t_held : Nat → Option Nat) (y0_p : Int32) (y0_a : Int32) (y0_b : Int32) (y0_from : Int32) (y0_kernelPoint : Int32) (y0_kernelOrder : Int32) (y0_points : Int32) (y0_inner : Int32) (y0_outer : Int32) (y0_makersFound : Int32) (y0_first : Int32) (y0_second : Int32) (a0 : Int32) (rr : Int32 × Int32 × Int32 × Int32 × Int32 × Int32 × Int32 × Int32 × Int32 × Int32 × Int32 × Int32 × Int32 × Int32) (h : mX5_twist_s N t_size y0_p y0_a y0_b a0 = some (.inr rr)) (hk0 : mX5_at N t_size t_held a0 = some (some y0)) : Met l yX5_twist wsX5_twist rmX5_twist_s_r (va_Pc [.ref h0, .int a0] (fun U => U.heap.size = sz ∧ va_P (dC, dI) vwCl [(h0, .inr (4, [.ref h0_held, .int t_size, .ref h0_survey])), (h0_held, .inl (k_t_held, 24, .inr (.inr (.inr (.inr t_held))))), (y0, .inr (0, [.int y0_p, .int y0_a, .int y0_b, .int y0_from, .int y0_kernelPoint, .int y0_kernelOrder, .int y0_points, .int y0_inner, .int y0_outer, .int y0_makersFound, .int y0_first, .int y0_second]))] U.heap ∧ va_K (dC, dI) vwCl [(k_t_held, .object "PointRings$Curve")] U ∧ nw_all U ∧ va_D (fun _ => True) [(h0, .inr (4, [.ref h0_held, .int t_size, .ref h0_survey])), (h0_held, .inl (k_t_held, 24, .inr (.inr (.inr (.inr t_held))))), (y0, .inr (0, [.int y0_p, .int y0_a, .int y0_b, .int y0_from, .int y0_kernelPoint, .int y0_kernelOrder, .int y0_points, .int y0_inner, .int y0_outer, .int y0_makersFound, .int y0_first, .int y0_second]))])) (va_Qi (fun (r : Int32) (u : Int32 × Int32 × Int32 × Int32 × Int32 × Int32 × Int32 × Int32 × Int32 × Int32 × Int32 × Int32 × Int32) => (r, u) = rr) (fun (u : Int32 × Int32 × Int32 × Int32 × Int32 × Int32 × Int32 × Int32 × Int32 × Int32 × Int32 × Int32 × Int32) t => match u with | (u0, u1, u2, u3, u4, u5, u6, u7, u8, u9, u10, u11, u12) => ∃ ra17 : Nat, va_P (dC, dI) vwCl [(h0, .inr (4, [.ref h0_held, .int u0, .ref h0_survey])), (h0_held, .inl (k_t_held, 24, .inr (.inr (.inr (.inr (va_up t_held t_size.toNatClampNeg (some ra17))))))), (y0, .inr (0, [.int y0_p, .int y0_a, .int y0_b, .int y0_from, .int y0_kernelPoint, .int y0_kernelOrder, .int y0_points, .int y0_inner, .int y0_outer, .int y0_makersFound, .int y0_first, .int y0_second])), (ra17, .inr (0, [.int u1, .int u2, .int u3, .int u4, .int u5, .int u6, .int u7, .int u8, .int u9, .int u10, .int u11, .int u12]))] t.heap ∧ va_K (dC, dI) vwCl [(k_t_held, .object "PointRings$Curve")] t ∧ va_D (va_A [(h0, .inr (4, [.ref h0_held, .int t_size, .ref h0_survey])), (h0_held, .inl (k_t_held, 24, .inr (.inr (.inr (.inr t_held))))), (y0, .inr (0, [.int y0_p, .int y0_a, .int y0_b, .int y0_from, .int y0_kernelPoint, .int y0_kernelOrder, .int y0_points, .int y0_inner, .int y0_outer, .int y0_makersFound, .int y0_first, .int y0_second]))] sz) [(h0, .inr (4, [.ref h0_held, .int u0, .ref h0_survey])), (h0_held, .inl (k_t_held, 24, .inr (.inr (.inr (.inr (va_up t_held t_size.toNatClampNeg (some ra17))))))), (y0, .inr (0, [.int y0_p, .int y0_a, .int y0_b, .int y0_from, .int y0_kernelPoint, .int y0_kernelOrder, .int y0_points, .int y0_inner, .int y0_outer, .int y0_makersFound, .int y0_first, .int y0_second])), (ra17, .inr (0, [.int u1, .int u2, .int u3, .int u4, .int u5, .int u6, .int u7, .int u8, .int u9, .int u10, .int u11, .int u12]))]) (va_A [(h0, .inr (4, [.ref h0_held, .int t_size, .ref h0_survey])), (h0_held, .inl (k_t_held, 24, .inr (.inr (.inr (.inr t_held))))), (y0, .inr (0, [.int y0_p, .int y0_a, .int y0_b, .int y0_from, .int y0_kernelPoint, .int y0_kernelOrder, .int y0_points, .int y0_inner, .int y0_outer, .int y0_makersFound, .int y0_first, .int y0_second]))] sz)) 1 12 (va_A [(h0, .inr (4, [.ref h0_held, .int t_size, .ref h0_survey])), (h0_held, .inl (k_t_held, 24, .inr (.inr (.inr (.inr t_held))))), (y0, .inr (0, [.int y0_p, .int y0_a, .int y0_b, .int y0_from, .int y0_kernelPoint, .int y0_kernelOrder, .int y0_points, .int y0_inner, .int y0_outer, .int y0_makersFound, .int y0_first, .int y0_second]))] sz) := by
  refine Met.ofW (cc := cX5_twist) (maxL := 3) (ret := (some .int)) (by decide) rfl ?_
  intro p e s m args below meth c s₁ B hml hv
  obtain ⟨rfl, hsz, hP, hK, hN, hD0⟩ := hv
  have hx := B.exec
  have hb := B.bytes
  have hr := B.returns
  have hts := atoms_spec (ws := wsX5_twist) B.pre
  have hown : s.vm.findClass RX5 = some m.cls := findClass_of_methodNamed B.named
  have hlocks := B.notSynchronized
  subst hsz
  have hD := hD0.self (sz := s.heap.size)
  generalize hAe : va_A [(h0, .inr (4, [.ref h0_held, .int t_size, .ref h0_survey])), (h0_held, .inl (k_t_held, 24, .inr (.inr (.inr (.inr t_held))))), (y0, .inr (0, [.int y0_p, .int y0_a, .int y0_b, .int y0_from, .int y0_kernelPoint, .int y0_kernelOrder, .int y0_points, .int y0_inner, .int y0_outer, .int y0_makersFound, .int y0_first, .int y0_second]))] s.heap.size = A at hD ⊢
  have hA0 : ∀ q : Nat, s.heap.size ≤ q → A q := fun q h => by rw [← hAe]; exact Or.inr h
  have hS : va_S A s.heap s.heap [] := va_S.rf
  have hP : va_P (dC, dI) vwCl [(h0, .inr (4, [.ref h0_held, .int t_size, .ref h0_survey])), (h0_held, .inl (k_t_held, 24, .inr (.inr (.inr (.inr t_held))))), (y0, .inr (0, [.int y0_p, .int y0_a, .int y0_b, .int y0_from, .int y0_kernelPoint, .int y0_kernelOrder, .int y0_points, .int y0_inner, .int y0_outer, .int y0_makersFound, .int y0_first, .int y0_second]))] s.heap := hP
  have hl := lv_entry ([.ref h0, .int a0]) (n := 3) (Nat.le_of_ble_eq_true rfl)
  rw [lg_entry_eq]
  generalize (lg_sl ([.ref h0, .int a0]) ++ List.replicate (3 - (lg_sl ([.ref h0, .int a0])).length) Slot.unset).toArray = ls at hl ⊢
  have hl : lv_has ls 3 [(0, .ref h0), (1, .int a0)] := hl
  dsimp only [mX5_twist_s] at h
  refine lv_aload_n hx hb dX5_twist_0 rfl (lv_at hl 0 rfl) ?_
  refine lv_iload_n hx hb dX5_twist_1 rfl (lv_at hl 1 rfl) ?_
  have hPc := hP.sub (ws' := [(h0, .inr (4, [.ref h0_held, .int t_size, .ref h0_survey])), (h0_held, .inl (k_t_held, 24, .inr (.inr (.inr (.inr t_held)))))]) [0, 1] rfl
  have hKc := hK.sub (tys' := [(k_t_held, .object "PointRings$Curve")]) [0] rfl
  refine va_csq (W.runV (As := [.int a0]) (rest := []) ⟨hx, hb, hml, hown, hts⟩ (ctX5_at l N dC dI  h0 h0_held h0_survey k_t_held t_size t_held a0 (some y0) hk0) (cwV 1 hts gX5_twist_X5_at rfl rfl rfl (by decide +kernel) ⟨Nat.le_of_ble_eq_true rfl, Nat.le_of_ble_eq_true rfl⟩) ⟨fun a U g mk q => by obtain ⟨q0, qP, qK, qN⟩ := q; exact ⟨q0, qP, va_K.moved (u := U) (U := U.calling g mk a) (Vm.Alike.refl U.vm) qK, nw_same (u := U) (U := U.calling g mk a) rfl qN⟩, va_recv hKc hPc (ci := 4) (q0 := 0) rfl rfl, fun U hU hW => ⟨rfl, by rw [hU]; exact hPc, va_K.moved hW.alike hKc, nw_warm hW hN⟩⟩ rfl rfl hl.1 rfl (lv_room (Nat.le_of_ble_eq_true rfl)) dX5_twist_2 ⟨Nat.le_of_ble_eq_true rfl, Nat.le_of_ble_eq_true rfl⟩) (fun q9 eq9 => ?_)
  subst q9
  refine lv_astore_n (lv' := [(2, .ref y0), (0, .ref h0), (1, .int a0)]) hx hb dX5_twist_5 rfl hl (by decide) rfl (fun ls hl => ?_)
  refine lv_aload_n hx hb dX5_twist_6 rfl (lv_at hl 0 rfl) ?_
  refine lv_ifnonnull (tgt := 15) hx hb dX5_twist_7 (by decide) ?_
  refine lv_aload_n hx hb dX5_twist_15 rfl (lv_at hl 1 rfl) ?_
  refine lv_aload_n hx hb dX5_twist_16 rfl (lv_at hl 0 rfl) ?_
  obtain ⟨r2, hr2, h⟩ := Option.bind_eq_some_iff.mp h
  have hPc := hP.sub (ws' := [(y0, .inr (0, [.int y0_p, .int y0_a, .int y0_b, .int y0_from, .int y0_kernelPoint, .int y0_kernelOrder, .int y0_points, .int y0_inner, .int y0_outer, .int y0_makersFound, .int y0_first, .int y0_second]))]) [2] rfl
  have hDc := hD.sub (ws' := [(y0, .inr (0, [.int y0_p, .int y0_a, .int y0_b, .int y0_from, .int y0_kernelPoint, .int y0_kernelOrder, .int y0_points, .int y0_inner, .int y0_outer, .int y0_makersFound, .int y0_first, .int y0_second]))]) [2] (by decide) rfl
  have hKc := hK.sub (tys' := []) [] rfl
  have hFc := va_free (wc := [(y0, .inr (0, [.int y0_p, .int y0_a, .int y0_b, .int y0_from, .int y0_kernelPoint, .int y0_kernelOrder, .int y0_points, .int y0_inner, .int y0_outer, .int y0_makersFound, .int y0_first, .int y0_second]))]) hD hS hA0 [2] rfl
  refine va_callr (va_runV (As := []) (rest := [.ref h0]) ⟨hx, hb, hml, hown, hts⟩ (ctX0_twisted l N dC dI _ y0 y0_p y0_a y0_b y0_from y0_kernelPoint y0_kernelOrder y0_points y0_inner y0_outer y0_makersFound y0_first y0_second r2 hr2) (cwV 0 hts gX5_twist_X0_twisted rfl rfl rfl (by decide +kernel) ⟨Nat.le_of_ble_eq_true rfl, Nat.le_of_ble_eq_true rfl⟩) ⟨fun a U g mk q => by obtain ⟨q0, q1, qP, qK, qN, qD⟩ := q; exact ⟨q0, q1, qP, va_K.moved (u := U) (U := U.calling g mk a) (Vm.Alike.refl U.vm) qK, nw_same (u := U) (U := U.calling g mk a) rfl qN, qD⟩, va_recv hKc hPc (ci := 0) (q0 := 0) rfl rfl, fun U hU hW => ⟨rfl, by rw [hU], by rw [hU]; exact hPc, va_K.moved hW.alike hKc, nw_warm hW hN, hDc.weaken (fun _ _ _ _ => trivial)⟩⟩ rfl rfl hl.1 rfl (lv_room (Nat.le_of_ble_eq_true rfl)) dX5_twist_17 ⟨Nat.le_of_ble_eq_true rfl, Nat.le_of_ble_eq_true rfl⟩) hS (fun q _ h => hFc q h) hFc (fun u ra17 t H1 locs ht hvm hw hB1 hz1 hk1 hS => ?_)
  obtain ⟨u3, u4, u5, u6, u7, u8, u9, u10, u11, u12, u13, u14⟩ := u
  obtain ⟨hP1, hK1, hD1⟩ := hB1
  rw [ht] at hP1
  have hK1 := va_K.moved hvm.symm hK1
  subst hw
  try dsimp only at h
  obtain ⟨hP, hD⟩ := va_join (wr := [(h0, .inr (4, [.ref h0_held, .int t_size, .ref h0_survey])), (h0_held, .inl (k_t_held, 24, .inr (.inr (.inr (.inr t_held)))))]) (w1 := [(y0, .inr (0, [.int y0_p, .int y0_a, .int y0_b, .int y0_from, .int y0_kernelPoint, .int y0_kernelOrder, .int y0_points, .int y0_inner, .int y0_outer, .int y0_makersFound, .int y0_first, .int y0_second])), (ra17, .inr (0, [.int u3, .int u4, .int u5, .int u6, .int u7, .int u8, .int u9, .int u10, .int u11, .int u12, .int u13, .int u14]))]) hP hD [2] [0, 1] rfl rfl (by decide) (by decide) hk1 hFc hP1 hD1
  generalize H1 = H at hP hS ⊢
  have hP := hP.sub (ws' := [(h0, .inr (4, [.ref h0_held, .int t_size, .ref h0_survey])), (h0_held, .inl (k_t_held, 24, .inr (.inr (.inr (.inr t_held))))), (y0, .inr (0, [.int y0_p, .int y0_a, .int y0_b, .int y0_from, .int y0_kernelPoint, .int y0_kernelOrder, .int y0_points, .int y0_inner, .int y0_outer, .int y0_makersFound, .int y0_first, .int y0_second])), (ra17, .inr (0, [.int u3, .int u4, .int u5, .int u6, .int u7, .int u8, .int u9, .int u10, .int u11, .int u12, .int u13, .int u14]))]) [0, 1, 2, 3] rfl
  have hD := hD.sub (ws' := [(h0, .inr (4, [.ref h0_held, .int t_size, .ref h0_survey])), (h0_held, .inl (k_t_held, 24, .inr (.inr (.inr (.inr t_held))))), (y0, .inr (0, [.int y0_p, .int y0_a, .int y0_b, .int y0_from, .int y0_kernelPoint, .int y0_kernelOrder, .int y0_points, .int y0_inner, .int y0_outer, .int y0_makersFound, .int y0_first, .int y0_second])), (ra17, .inr (0, [.int u3, .int u4, .int u5, .int u6, .int u7, .int u8, .int u9, .int u10, .int u11, .int u12, .int u13, .int u14]))]) [0, 1, 2, 3] (by decide) rfl
  by_cases c15 : t_size < 24
  · replace h := (if_pos c15).symm.trans h
    obtain ⟨r16, hr16, h⟩ := Option.bind_eq_some_iff.mp h
    have hPc := hP.sub (ws' := [(h0, .inr (4, [.ref h0_held, .int t_size, .ref h0_survey])), (h0_held, .inl (k_t_held, 24, .inr (.inr (.inr (.inr t_held))))), (ra17, .inr (0, [.int u3, .int u4, .int u5, .int u6, .int u7, .int u8, .int u9, .int u10, .int u11, .int u12, .int u13, .int u14]))]) [0, 1, 3] rfl
    have hDc := hD.sub (ws' := [(h0, .inr (4, [.ref h0_held, .int t_size, .ref h0_survey])), (h0_held, .inl (k_t_held, 24, .inr (.inr (.inr (.inr t_held))))), (ra17, .inr (0, [.int u3, .int u4, .int u5, .int u6, .int u7, .int u8, .int u9, .int u10, .int u11, .int u12, .int u13, .int u14]))]) [0, 1, 3] (by decide) rfl
    have hKc := hK.sub (tys' := [(k_t_held, .object "PointRings$Curve")]) [0] rfl
    have hFc := va_free (wc := [(h0, .inr (4, [.ref h0_held, .int t_size, .ref h0_survey])), (h0_held, .inl (k_t_held, 24, .inr (.inr (.inr (.inr t_held))))), (ra17, .inr (0, [.int u3, .int u4, .int u5, .int u6, .int u7, .int u8, .int u9, .int u10, .int u11, .int u12, .int u13, .int u14]))]) hD hS hA0 [0, 1, 3] rfl
    refine va_calli (va_runV (As := [.ref ra17]) (rest := []) ⟨hx, hb, hml, hown, hts⟩ (ctX5_keep_k l N dC dI _ h0 h0_held ra17 h0_survey k_t_held t_size t_held u3 u4 u5 u6 u7 u8 u9 u10 u11 u12 u13 u14 r16 hr16 c15) (cwV 1 hts gX5_twist_X5_keep rfl rfl rfl (by decide +kernel) ⟨Nat.le_of_ble_eq_true rfl, Nat.le_of_ble_eq_true rfl⟩) ⟨fun a U g mk q => by obtain ⟨q0, q1, qP, qK, qN, qD⟩ := q; exact ⟨q0, q1, qP, va_K.moved (u := U) (U := U.calling g mk a) (Vm.Alike.refl U.vm) qK, nw_same (u := U) (U := U.calling g mk a) rfl qN, qD⟩, va_recv hKc hPc (ci := 4) (q0 := 0) rfl rfl, fun U hU hW => ⟨rfl, by rw [hU], by rw [hU]; exact hPc, va_K.moved hW.alike hKc, nw_warm hW hN, hDc.weaken (fun _ _ _ _ => trivial)⟩⟩ rfl rfl hl.1 rfl (lv_room (Nat.le_of_ble_eq_true rfl)) dX5_twist_20 ⟨Nat.le_of_ble_eq_true rfl, Nat.le_of_ble_eq_true rfl⟩) hS (fun q _ h => hFc q h) hFc (fun rz u t H1 locs ht hvm hw hB1 hz1 hk1 hS => ?_)
    obtain ⟨u17, rfl⟩ : ∃ z, z = u := ⟨_, rfl⟩
    obtain ⟨hP1, hK1, hD1⟩ := hB1
    rw [ht] at hP1
    have hK1 := va_K.moved hvm.symm hK1
    obtain ⟨r18, rfl⟩ : ∃ z, z = rz := ⟨_, rfl⟩
    subst hw
    try dsimp only at h
    obtain ⟨hP, hD⟩ := va_join (wr := [(y0, .inr (0, [.int y0_p, .int y0_a, .int y0_b, .int y0_from, .int y0_kernelPoint, .int y0_kernelOrder, .int y0_points, .int y0_inner, .int y0_outer, .int y0_makersFound, .int y0_first, .int y0_second]))]) (w1 := [(h0, .inr (4, [.ref h0_held, .int u17, .ref h0_survey])), (h0_held, .inl (k_t_held, 24, .inr (.inr (.inr (.inr (va_up t_held t_size.toNatClampNeg (some ra17))))))), (ra17, .inr (0, [.int u3, .int u4, .int u5, .int u6, .int u7, .int u8, .int u9, .int u10, .int u11, .int u12, .int u13, .int u14]))]) hP hD [0, 1, 3] [2] rfl rfl (by decide) (by decide) hk1 hFc hP1 hD1
    generalize H1 = H at hP hS ⊢
    have hP := hP.sub (ws' := [(h0, .inr (4, [.ref h0_held, .int u17, .ref h0_survey])), (h0_held, .inl (k_t_held, 24, .inr (.inr (.inr (.inr (va_up t_held t_size.toNatClampNeg (some ra17))))))), (y0, .inr (0, [.int y0_p, .int y0_a, .int y0_b, .int y0_from, .int y0_kernelPoint, .int y0_kernelOrder, .int y0_points, .int y0_inner, .int y0_outer, .int y0_makersFound, .int y0_first, .int y0_second])), (ra17, .inr (0, [.int u3, .int u4, .int u5, .int u6, .int u7, .int u8, .int u9, .int u10, .int u11, .int u12, .int u13, .int u14]))]) [1, 2, 0, 3] rfl
    have hD := hD.sub (ws' := [(h0, .inr (4, [.ref h0_held, .int u17, .ref h0_survey])), (h0_held, .inl (k_t_held, 24, .inr (.inr (.inr (.inr (va_up t_held t_size.toNatClampNeg (some ra17))))))), (y0, .inr (0, [.int y0_p, .int y0_a, .int y0_b, .int y0_from, .int y0_kernelPoint, .int y0_kernelOrder, .int y0_points, .int y0_inner, .int y0_outer, .int y0_makersFound, .int y0_first, .int y0_second])), (ra17, .inr (0, [.int u3, .int u4, .int u5, .int u6, .int u7, .int u8, .int u9, .int u10, .int u11, .int u12, .int u13, .int u14]))]) [1, 2, 0, 3] (by decide) rfl
    have hv : (r18, u17, u3, u4, u5, u6, u7, u8, u9, u10, u11, u12, u13, u14) = rr := Sum.inr.inj (Option.some.inj h)
    have hP9 := hP.sub (ws' := [(h0, .inr (4, [.ref h0_held, .int u17, .ref h0_survey])), (h0_held, .inl (k_t_held, 24, .inr (.inr (.inr (.inr (va_up t_held t_size.toNatClampNeg (some ra17))))))), (y0, .inr (0, [.int y0_p, .int y0_a, .int y0_b, .int y0_from, .int y0_kernelPoint, .int y0_kernelOrder, .int y0_points, .int y0_inner, .int y0_outer, .int y0_makersFound, .int y0_first, .int y0_second])), (ra17, .inr (0, [.int u3, .int u4, .int u5, .int u6, .int u7, .int u8, .int u9, .int u10, .int u11, .int u12, .int u13, .int u14]))]) [0, 1, 2, 3] rfl
    have hD9 := hD.sub (ws' := [(h0, .inr (4, [.ref h0_held, .int u17, .ref h0_survey])), (h0_held, .inl (k_t_held, 24, .inr (.inr (.inr (.inr (va_up t_held t_size.toNatClampNeg (some ra17))))))), (y0, .inr (0, [.int y0_p, .int y0_a, .int y0_b, .int y0_from, .int y0_kernelPoint, .int y0_kernelOrder, .int y0_points, .int y0_inner, .int y0_outer, .int y0_makersFound, .int y0_first, .int y0_second])), (ra17, .inr (0, [.int u3, .int u4, .int u5, .int u6, .int u7, .int u8, .int u9, .int u10, .int u11, .int u12, .int u13, .int u14]))]) [0, 1, 2, 3] (by decide) rfl
    have hK9 := hK.sub (tys' := [(k_t_held, .object "PointRings$Curve")]) [0] rfl
    refine W.widen (k := 1) (n := 12) (by decide +kernel) (by decide +kernel) ?_
    exact W.iret (v := r18) hx hb hr (fun t ht hW => ⟨⟨r18, (u17, u3, u4, u5, u6, u7, u8, u9, u10, u11, u12, u13, u14), rfl, hv, ra17, by rw [ht]; exact hP9, va_K.moved hW.alike hK9, hD9⟩, hS.F ht⟩) hS.2.2 dX5_twist_23
  · replace h := (if_neg c15).symm.trans h
    have hPc := hP.sub (ws' := [(h0, .inr (4, [.ref h0_held, .int t_size, .ref h0_survey])), (h0_held, .inl (k_t_held, 24, .inr (.inr (.inr (.inr t_held)))))]) [0, 1] rfl
    have hKc := hK.sub (tys' := [(k_t_held, .object "PointRings$Curve")]) [0] rfl
    refine vp_callSi (W.runV (As := [.ref ra17]) (rest := []) ⟨hx, hb, hml, hown, hts⟩ (ctX5_keep_f l N dC dI  h0 h0_held h0_survey ra17 k_t_held t_size t_held (-4) rfl c15) (cwV 1 hts gX5_twist_X5_keep rfl rfl rfl (by decide +kernel) ⟨Nat.le_of_ble_eq_true rfl, Nat.le_of_ble_eq_true rfl⟩) ⟨fun a U g mk q => by obtain ⟨q0, qP, qK, qN⟩ := q; exact ⟨q0, qP, va_K.moved (u := U) (U := U.calling g mk a) (Vm.Alike.refl U.vm) qK, nw_same (u := U) (U := U.calling g mk a) rfl qN⟩, va_recv hKc hPc (ci := 4) (q0 := 0) rfl rfl, fun U hU hW => ⟨rfl, by rw [hU]; exact hPc, va_K.moved hW.alike hKc, nw_warm hW hN⟩⟩ rfl rfl hl.1 rfl (lv_room (Nat.le_of_ble_eq_true rfl)) dX5_twist_20 ⟨Nat.le_of_ble_eq_true rfl, Nat.le_of_ble_eq_true rfl⟩) (fun q9 eq9 => ?_)
    subst q9
    exact absurd (Option.some.inj h) (fun hh => nomatch hh)
