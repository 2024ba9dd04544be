def mX2_endOf (N : Nat) (t_ends : Nat → Int32) (a0 : Int32) : Option (Int32) := if a0 ≤ 0 then some (-1) else if 128 ≤ a0 then some (-1) else if a0 < 0 ∨ 128 ≤ a0.toNatClampNeg then none else mi_let (t_ends a0.toNatClampNeg) (fun v4 => some v4)
abbrev rmX2_endOf : Room := { frames := 0, cells := 0, slots := 0, locals := 0 }
set_option maxHeartbeats 4000000 in
set_option maxRecDepth 100000 in
theorem ctX2_endOf (l : Launch) (N : Nat) (dC : Nat → ClassId) (dI : Nat → Nat → Nat) (h0 : Nat) (h0_ends : Nat) (h0_stepAt : Nat) (k_t_ends : ClassId) (t_laidOn : Option Nat) (t_order : Int32) (t_reach : Int32) (t_back : Int32) (t_ends : Nat → Int32) (a0 : Int32) (rr : Int32) (h : mX2_endOf N t_ends a0 = some rr) : Met l yX2_endOf wsX2_endOf rmX2_endOf (va_Pc [.ref h0, .int a0] (fun U => va_P (dC, dI) vwCl [(h0, .inr (2, [.ref h0_stepAt, .ref h0_ends, va_rf t_laidOn, .int t_order, .int t_reach, .int t_back])), (h0_ends, .inl (k_t_ends, 128, .inl t_ends))] U.heap ∧ va_K (dC, dI) vwCl [(k_t_ends, .int)] U ∧ nw_all U)) (vp_Si (fun r => r = rr)) 0 0 (fun _ => False) := by
  refine Met.ofW (cc := cX2_endOf) (maxL := 2) (ret := (some .int)) (by decide) rfl ?_
  intro p e s m args below meth c s₁ B hml hv
  obtain ⟨rfl, hP, hK, hN⟩ := hv
  have hx := B.exec
  have hb := B.bytes
  have hr := B.returns
  have hts := atoms_spec (ws := wsX2_endOf) B.pre
  have hown : s.vm.findClass RX2 = some m.cls := findClass_of_methodNamed B.named
  have hlocks := B.notSynchronized
  have hl := lv_entry ([.ref h0, .int a0]) (n := 2) (Nat.le_of_ble_eq_true rfl)
  rw [lg_entry_eq]
  generalize (lg_sl ([.ref h0, .int a0]) ++ List.replicate (2 - (lg_sl ([.ref h0, .int a0])).length) Slot.unset).toArray = ls at hl ⊢
  have hl : lv_has ls 2 [(0, .ref h0), (1, .int a0)] := hl
  dsimp only [mX2_endOf] at h
  refine lv_iload_n hx hb dX2_endOf_0 rfl (lv_at hl 1 rfl) ?_
  refine lv_if_le (tgt := 22) hx hb dX2_endOf_1 (by decide) (fun c1 => ?_) (fun c1 => ?_)
  · replace h := (if_pos c1).symm.trans h
    refine lv_iconst (v := (-1)) hx hb dX2_endOf_22 (by decide) ?_
    have hv : (-1) = rr := Option.some.inj h
    exact W.iret (v := (-1)) hx hb hr (fun t ht hW => ⟨_, rfl, hv, ht⟩) (fun q hq => absurd hq List.not_mem_nil) dX2_endOf_23
  · replace h := (if_neg c1).symm.trans h
    refine lv_iload_n hx hb dX2_endOf_4 rfl (lv_at hl 1 rfl) ?_
    refine lv_aload_n hx hb dX2_endOf_5 rfl (lv_at hl 0 rfl) ?_
    refine va_get (D := (dC, dI)) (ci := 2) (v := .ref h0_ends) (C := RX2) (T := TX2) (N := 6) hx hb hts (by decide +kernel) hown hK hP 0 rfl rfl 1 (by decide) (hts (.fieldLink RX2 15 "PointRings$Strides" "ends" "[I") (by decide +kernel)) (fun _ h9 => h9) rfl dX2_endOf_6 ?_
    refine va_alen (v := 128) hx hb hK hP 1 0 rfl rfl rfl dX2_endOf_9 ?_
    refine lv_icmp_ge (tgt := 22) hx hb dX2_endOf_10 (by decide) (fun c2 => ?_) (fun c2 => ?_)
    · replace h := (if_pos c2).symm.trans h
      refine lv_iconst (v := (-1)) hx hb dX2_endOf_22 (by decide) ?_
      have hv : (-1) = rr := Option.some.inj h
      exact W.iret (v := (-1)) hx hb hr (fun t ht hW => ⟨_, rfl, hv, ht⟩) (fun q hq => absurd hq List.not_mem_nil) dX2_endOf_23
    · replace h := (if_neg c2).symm.trans h
      refine lv_aload_n hx hb dX2_endOf_13 rfl (lv_at hl 0 rfl) ?_
      refine va_get (D := (dC, dI)) (ci := 2) (v := .ref h0_ends) (C := RX2) (T := TX2) (N := 6) hx hb hts (by decide +kernel) hown hK hP 0 rfl rfl 1 (by decide) (hts (.fieldLink RX2 15 "PointRings$Strides" "ends" "[I") (by decide +kernel)) (fun _ h9 => h9) rfl dX2_endOf_14 ?_
      refine lv_iload_n hx hb dX2_endOf_17 rfl (lv_at hl 1 rfl) ?_
      have hi3 : ¬ (a0 < 0 ∨ 128 ≤ a0.toNatClampNeg) := fun hz => absurd ((if_pos hz).symm.trans h) (fun hh => nomatch hh)
      replace h := (if_neg hi3).symm.trans h
      refine va_iald hx hb hK hP 1 0 rfl rfl hi3 dX2_endOf_18 ?_
      refine lv_topi (fun v4 ev4 => ?_)
      replace h := mi_use ev4 h
      refine lv_goto (tgt := 23) hx hb dX2_endOf_19 (by decide) ?_
      have hv : v4 = rr := Option.some.inj h
      exact W.iret (v := v4) hx hb hr (fun t ht hW => ⟨_, rfl, hv, ht⟩) (fun q hq => absurd hq List.not_mem_nil) dX2_endOf_23
def mX2_noted (N : Nat) (t_stepAt : Nat → Int32) (a0 : Int32) : Option (Int32) := (mX5_xOf N a0).bind (fun r1 => if r1 < 0 then some 0 else if 10007 ≤ r1 then some 0 else if r1 < 0 ∨ 10007 ≤ r1.toNatClampNeg then none else mi_let (t_stepAt r1.toNatClampNeg) (fun v5 => some v5))
abbrev rmX2_noted : Room := { frames := 1, cells := 0, slots := 0, locals := 20 }
set_option maxHeartbeats 4000000 in
set_option maxRecDepth 100000 in
theorem ctX2_noted (l : Launch) (N : Nat) (dC : Nat → ClassId) (dI : Nat → Nat → Nat) (h0 : Nat) (h0_stepAt : Nat) (h0_ends : Nat) (k_t_stepAt : ClassId) (t_laidOn : Option Nat) (t_order : Int32) (t_reach : Int32) (t_back : Int32) (t_stepAt : Nat → Int32) (a0 : Int32) (rr : Int32) (h : mX2_noted N t_stepAt a0 = some rr) : Met l yX2_noted wsX2_noted rmX2_noted (va_Pc [.ref h0, .int a0] (fun U => va_P (dC, dI) vwCl [(h0, .inr (2, [.ref h0_stepAt, .ref h0_ends, va_rf t_laidOn, .int t_order, .int t_reach, .int t_back])), (h0_stepAt, .inl (k_t_stepAt, 10007, .inl t_stepAt))] U.heap ∧ va_K (dC, dI) vwCl [(k_t_stepAt, .int)] U ∧ nw_all U)) (vp_Si (fun r => r = rr)) 0 0 (fun _ => False) := by
  refine Met.ofW (cc := cX2_noted) (maxL := 3) (ret := (some .int)) (by decide) rfl ?_
  intro p e s m args below meth c s₁ B hml hv
  obtain ⟨rfl, hP, hK, hN⟩ := hv
  have hx := B.exec
  have hb := B.bytes
  have hr := B.returns
  have hts := atoms_spec (ws := wsX2_noted) B.pre
  have hown : s.vm.findClass RX2 = some m.cls := findClass_of_methodNamed B.named
  have hlocks := B.notSynchronized
  have hl := lv_entry ([.ref h0, .int a0]) (n := 3) (Nat.le_of_ble_eq_true rfl)
  rw [lg_entry_eq]
  generalize (lg_sl ([.ref h0, .int a0]) ++ List.replicate (3 - (lg_sl ([.ref h0, .int a0])).length) Slot.unset).toArray = ls at hl ⊢
  have hl : lv_has ls 3 [(0, .ref h0), (1, .int a0)] := hl
  dsimp only [mX2_noted] at h
  refine lv_iload_n hx hb dX2_noted_0 rfl (lv_at hl 1 rfl) ?_
  obtain ⟨r1, hr1, h⟩ := Option.bind_eq_some_iff.mp h
  refine vp_callSi (mi_cr (va_runSN (As := [.int a0]) (rest := []) ⟨hx, hb, hml, hown, hts⟩ (ctX5_xOf l N  a0 r1 hr1) ⟨va_cnB 1 hts gX2_noted_X5_xOf_n57 rfl rfl rfl (nw_X2_57 hN) (hts (.initialized RX5) (by decide +kernel)) (by decide +kernel) ⟨Nat.le_of_ble_eq_true rfl, Nat.le_of_ble_eq_true rfl⟩, hts (.static yX5_xOf) (by decide +kernel), trivial⟩ preEq rfl rfl hl.1 rfl (lv_room (Nat.le_of_ble_eq_true rfl)) dX2_noted_1 ⟨Nat.le_of_ble_eq_true rfl, Nat.le_of_ble_eq_true rfl⟩)) (fun q9 eq9 => ?_)
  subst q9
  refine lv_istore_n (lv' := [(2, .int r1), (0, .ref h0), (1, .int a0)]) hx hb dX2_noted_4 rfl hl (by decide) rfl (fun ls hl => ?_)
  refine lv_iload_n hx hb dX2_noted_5 rfl (lv_at hl 0 rfl) ?_
  refine lv_if_lt (tgt := 27) hx hb dX2_noted_6 (by decide) (fun c2 => ?_) (fun c2 => ?_)
  · replace h := (if_pos c2).symm.trans h
    refine lv_iconst (v := 0) hx hb dX2_noted_27 (by decide) ?_
    have hv : 0 = rr := Option.some.inj h
    exact W.iret (v := 0) hx hb hr (fun t ht hW => ⟨_, rfl, hv, ht⟩) (fun q hq => absurd hq List.not_mem_nil) dX2_noted_28
  · replace h := (if_neg c2).symm.trans h
    refine lv_iload_n hx hb dX2_noted_9 rfl (lv_at hl 0 rfl) ?_
    refine lv_aload_n hx hb dX2_noted_10 rfl (lv_at hl 1 rfl) ?_
    refine va_get (D := (dC, dI)) (ci := 2) (v := .ref h0_stepAt) (C := RX2) (T := TX2) (N := 6) hx hb hts (by decide +kernel) hown hK hP 0 rfl rfl 0 (by decide) (hts (.fieldLink RX2 9 "PointRings$Strides" "stepAt" "[I") (by decide +kernel)) (fun _ h9 => h9) rfl dX2_noted_11 ?_
    refine va_alen (v := 10007) hx hb hK hP 1 0 rfl rfl rfl dX2_noted_14 ?_
    refine lv_icmp_ge (tgt := 27) hx hb dX2_noted_15 (by decide) (fun c3 => ?_) (fun c3 => ?_)
    · replace h := (if_pos c3).symm.trans h
      refine lv_iconst (v := 0) hx hb dX2_noted_27 (by decide) ?_
      have hv : 0 = rr := Option.some.inj h
      exact W.iret (v := 0) hx hb hr (fun t ht hW => ⟨_, rfl, hv, ht⟩) (fun q hq => absurd hq List.not_mem_nil) dX2_noted_28
    · replace h := (if_neg c3).symm.trans h
      refine lv_aload_n hx hb dX2_noted_18 rfl (lv_at hl 1 rfl) ?_
      refine va_get (D := (dC, dI)) (ci := 2) (v := .ref h0_stepAt) (C := RX2) (T := TX2) (N := 6) hx hb hts (by decide +kernel) hown hK hP 0 rfl rfl 0 (by decide) (hts (.fieldLink RX2 9 "PointRings$Strides" "stepAt" "[I") (by decide +kernel)) (fun _ h9 => h9) rfl dX2_noted_19 ?_
      refine lv_iload_n hx hb dX2_noted_22 rfl (lv_at hl 0 rfl) ?_
      have hi4 : ¬ (r1 < 0 ∨ 10007 ≤ r1.toNatClampNeg) := fun hz => absurd ((if_pos hz).symm.trans h) (fun hh => nomatch hh)
      replace h := (if_neg hi4).symm.trans h
      refine va_iald hx hb hK hP 1 0 rfl rfl hi4 dX2_noted_23 ?_
      refine lv_topi (fun v5 ev5 => ?_)
      replace h := mi_use ev5 h
      refine lv_goto (tgt := 28) hx hb dX2_noted_24 (by decide) ?_
      have hv : v5 = rr := Option.some.inj h
      exact W.iret (v := v5) hx hb hr (fun t ht hW => ⟨_, rfl, hv, ht⟩) (fun q hq => absurd hq List.not_mem_nil) dX2_noted_28
def mX2_note (N : Nat) (t_stepAt : Nat → Int32) (a0 : Int32) (a1 : Int32) : Option ((Nat → Int32)) := (mX5_xOf N a0).bind (fun r1 => if r1 < 0 then some t_stepAt else if 10007 ≤ r1 then some t_stepAt else if r1 < 0 ∨ 10007 ≤ r1.toNatClampNeg then none else mi_let (upd t_stepAt r1.toNatClampNeg a1) (fun f5 => some f5))
abbrev rmX2_note : Room := { frames := 1, cells := 0, slots := 0, locals := 20 }
set_option maxHeartbeats 4000000 in
set_option maxRecDepth 100000 in
theorem ctX2_note (l : Launch) (N : Nat) (dC : Nat → ClassId) (dI : Nat → Nat → Nat) (sz : Nat) (h0 : Nat) (h0_stepAt : Nat) (h0_ends : Nat) (k_t_stepAt : ClassId) (t_laidOn : Option Nat) (t_order : Int32) (t_reach : Int32) (t_back : Int32) (t_stepAt : Nat → Int32) (a0 : Int32) (a1 : Int32) (rr : (Nat → Int32)) (h : mX2_note N t_stepAt a0 a1 = some rr) : Met l yX2_note wsX2_note rmX2_note (va_Pc [.ref h0, .int a0, .int a1] (fun U => U.heap.size = sz ∧ va_P (dC, dI) vwCl [(h0, .inr (2, [.ref h0_stepAt, .ref h0_ends, va_rf t_laidOn, .int t_order, .int t_reach, .int t_back])), (h0_stepAt, .inl (k_t_stepAt, 10007, .inl t_stepAt))] U.heap ∧ va_K (dC, dI) vwCl [(k_t_stepAt, .int)] U ∧ nw_all U ∧ va_D (fun _ => True) [(h0, .inr (2, [.ref h0_stepAt, .ref h0_ends, va_rf t_laidOn, .int t_order, .int t_reach, .int t_back])), (h0_stepAt, .inl (k_t_stepAt, 10007, .inl t_stepAt))])) (va_Qv (fun (u : (Nat → Int32)) => u = rr) (fun (u : (Nat → Int32)) t => match u with | u0 => va_P (dC, dI) vwCl [(h0, .inr (2, [.ref h0_stepAt, .ref h0_ends, va_rf t_laidOn, .int t_order, .int t_reach, .int t_back])), (h0_stepAt, .inl (k_t_stepAt, 10007, .inl u0))] t.heap ∧ va_K (dC, dI) vwCl [(k_t_stepAt, .int)] t ∧ va_D (va_A [(h0, .inr (2, [.ref h0_stepAt, .ref h0_ends, va_rf t_laidOn, .int t_order, .int t_reach, .int t_back])), (h0_stepAt, .inl (k_t_stepAt, 10007, .inl t_stepAt))] sz) [(h0, .inr (2, [.ref h0_stepAt, .ref h0_ends, va_rf t_laidOn, .int t_order, .int t_reach, .int t_back])), (h0_stepAt, .inl (k_t_stepAt, 10007, .inl u0))]) (va_A [(h0, .inr (2, [.ref h0_stepAt, .ref h0_ends, va_rf t_laidOn, .int t_order, .int t_reach, .int t_back])), (h0_stepAt, .inl (k_t_stepAt, 10007, .inl t_stepAt))] sz)) 0 0 (va_A [(h0, .inr (2, [.ref h0_stepAt, .ref h0_ends, va_rf t_laidOn, .int t_order, .int t_reach, .int t_back])), (h0_stepAt, .inl (k_t_stepAt, 10007, .inl t_stepAt))] sz) := by
  refine Met.ofW (cc := cX2_note) (maxL := 4) (ret := none) (by decide) rfl ?_
  intro p e s m args below meth c s₁ B hml hv
  obtain ⟨rfl, hsz, hP, hK, hN, hD0⟩ := hv
  have hx := B.exec
  have hb := B.bytes
  have hr := B.returns
  have hts := atoms_spec (ws := wsX2_note) B.pre
  have hown : s.vm.findClass RX2 = some m.cls := findClass_of_methodNamed B.named
  have hlocks := B.notSynchronized
  subst hsz
  have hD := hD0.self (sz := s.heap.size)
  generalize hAe : va_A [(h0, .inr (2, [.ref h0_stepAt, .ref h0_ends, va_rf t_laidOn, .int t_order, .int t_reach, .int t_back])), (h0_stepAt, .inl (k_t_stepAt, 10007, .inl t_stepAt))] s.heap.size = A at hD ⊢
  have hA0 : ∀ q : Nat, s.heap.size ≤ q → A q := fun q h => by rw [← hAe]; exact Or.inr h
  have hS : va_S A s.heap s.heap [] := va_S.rf
  have hP : va_P (dC, dI) vwCl [(h0, .inr (2, [.ref h0_stepAt, .ref h0_ends, va_rf t_laidOn, .int t_order, .int t_reach, .int t_back])), (h0_stepAt, .inl (k_t_stepAt, 10007, .inl t_stepAt))] s.heap := hP
  have hl := lv_entry ([.ref h0, .int a0, .int a1]) (n := 4) (Nat.le_of_ble_eq_true rfl)
  rw [lg_entry_eq]
  generalize (lg_sl ([.ref h0, .int a0, .int a1]) ++ List.replicate (4 - (lg_sl ([.ref h0, .int a0, .int a1])).length) Slot.unset).toArray = ls at hl ⊢
  have hl : lv_has ls 4 [(0, .ref h0), (1, .int a0), (2, .int a1)] := hl
  dsimp only [mX2_note] at h
  refine lv_iload_n hx hb dX2_note_0 rfl (lv_at hl 1 rfl) ?_
  obtain ⟨r1, hr1, h⟩ := Option.bind_eq_some_iff.mp h
  refine vp_callSi (mi_cr (va_runSN (As := [.int a0]) (rest := []) ⟨hx, hb, hml, hown, hts⟩ (ctX5_xOf l N  a0 r1 hr1) ⟨va_cnB 1 hts gX2_note_X5_xOf_n57 rfl rfl rfl (nw_X2_57 hN) (hts (.initialized RX5) (by decide +kernel)) (by decide +kernel) ⟨Nat.le_of_ble_eq_true rfl, Nat.le_of_ble_eq_true rfl⟩, hts (.static yX5_xOf) (by decide +kernel), trivial⟩ preEq rfl rfl hl.1 rfl (lv_room (Nat.le_of_ble_eq_true rfl)) dX2_note_1 ⟨Nat.le_of_ble_eq_true rfl, Nat.le_of_ble_eq_true rfl⟩)) (fun q9 eq9 => ?_)
  subst q9
  refine lv_istore_n (lv' := [(3, .int r1), (0, .ref h0), (1, .int a0), (2, .int a1)]) hx hb dX2_note_4 rfl hl (by decide) rfl (fun ls hl => ?_)
  refine lv_iload_n hx hb dX2_note_5 rfl (lv_at hl 0 rfl) ?_
  refine lv_if_lt (tgt := 25) hx hb dX2_note_6 (by decide) (fun c2 => ?_) (fun c2 => ?_)
  · replace h := (if_pos c2).symm.trans h
    have hv : t_stepAt = rr := Option.some.inj h
    have hP9 := hP.sub (ws' := [(h0, .inr (2, [.ref h0_stepAt, .ref h0_ends, va_rf t_laidOn, .int t_order, .int t_reach, .int t_back])), (h0_stepAt, .inl (k_t_stepAt, 10007, .inl t_stepAt))]) [0, 1] rfl
    have hD9 := hD.sub (ws' := [(h0, .inr (2, [.ref h0_stepAt, .ref h0_ends, va_rf t_laidOn, .int t_order, .int t_reach, .int t_back])), (h0_stepAt, .inl (k_t_stepAt, 10007, .inl t_stepAt))]) [0, 1] (by decide) rfl
    have hK9 := hK.sub (tys' := [(k_t_stepAt, .int)]) [0] rfl
    exact W.vret hx hb hr (fun t ht hW => ⟨⟨t_stepAt, rfl, hv, by rw [ht]; exact hP9, va_K.moved hW.alike hK9, hD9⟩, hS.F ht⟩) hS.2.2 dX2_note_25
  · replace h := (if_neg c2).symm.trans h
    refine lv_iload_n hx hb dX2_note_9 rfl (lv_at hl 0 rfl) ?_
    refine lv_aload_n hx hb dX2_note_10 rfl (lv_at hl 1 rfl) ?_
    refine va_get (D := (dC, dI)) (ci := 2) (v := .ref h0_stepAt) (C := RX2) (T := TX2) (N := 6) hx hb hts (by decide +kernel) hown hK hP 0 rfl rfl 0 (by decide) (hts (.fieldLink RX2 9 "PointRings$Strides" "stepAt" "[I") (by decide +kernel)) (fun _ h9 => h9) rfl dX2_note_11 ?_
    refine va_alen (v := 10007) hx hb hK hP 1 0 rfl rfl rfl dX2_note_14 ?_
    refine lv_icmp_ge (tgt := 25) hx hb dX2_note_15 (by decide) (fun c3 => ?_) (fun c3 => ?_)
    · replace h := (if_pos c3).symm.trans h
      have hv : t_stepAt = rr := Option.some.inj h
      have hP9 := hP.sub (ws' := [(h0, .inr (2, [.ref h0_stepAt, .ref h0_ends, va_rf t_laidOn, .int t_order, .int t_reach, .int t_back])), (h0_stepAt, .inl (k_t_stepAt, 10007, .inl t_stepAt))]) [0, 1] rfl
      have hD9 := hD.sub (ws' := [(h0, .inr (2, [.ref h0_stepAt, .ref h0_ends, va_rf t_laidOn, .int t_order, .int t_reach, .int t_back])), (h0_stepAt, .inl (k_t_stepAt, 10007, .inl t_stepAt))]) [0, 1] (by decide) rfl
      have hK9 := hK.sub (tys' := [(k_t_stepAt, .int)]) [0] rfl
      exact W.vret hx hb hr (fun t ht hW => ⟨⟨t_stepAt, rfl, hv, by rw [ht]; exact hP9, va_K.moved hW.alike hK9, hD9⟩, hS.F ht⟩) hS.2.2 dX2_note_25
    · replace h := (if_neg c3).symm.trans h
      refine lv_aload_n hx hb dX2_note_18 rfl (lv_at hl 1 rfl) ?_
      refine va_get (D := (dC, dI)) (ci := 2) (v := .ref h0_stepAt) (C := RX2) (T := TX2) (N := 6) hx hb hts (by decide +kernel) hown hK hP 0 rfl rfl 0 (by decide) (hts (.fieldLink RX2 9 "PointRings$Strides" "stepAt" "[I") (by decide +kernel)) (fun _ h9 => h9) rfl dX2_note_19 ?_
      refine lv_iload_n hx hb dX2_note_22 rfl (lv_at hl 0 rfl) ?_
      refine lv_iload_n hx hb dX2_note_23 rfl (lv_at hl 3 rfl) ?_
      have hi4 : ¬ (r1 < 0 ∨ 10007 ≤ r1.toNatClampNeg) := fun hz => absurd ((if_pos hz).symm.trans h) (fun hh => nomatch hh)
      replace h := (if_neg hi4).symm.trans h
      refine va_iast hx hb hK hP hD hS 1 0 rfl rfl hi4 dX2_note_24 (fun H locs hP hD hS => ?_)
      have hP : va_P (dC, dI) vwCl [(h0, .inr (2, [.ref h0_stepAt, .ref h0_ends, va_rf t_laidOn, .int t_order, .int t_reach, .int t_back])), (h0_stepAt, .inl (k_t_stepAt, 10007, .inl (upd t_stepAt r1.toNatClampNeg a1)))] H := hP
      have hD : va_D A [(h0, .inr (2, [.ref h0_stepAt, .ref h0_ends, va_rf t_laidOn, .int t_order, .int t_reach, .int t_back])), (h0_stepAt, .inl (k_t_stepAt, 10007, .inl (upd t_stepAt r1.toNatClampNeg a1)))] := hD
      obtain ⟨f5, ef5⟩ : ∃ z : Nat → Int32, z = upd t_stepAt r1.toNatClampNeg a1 := ⟨_, rfl⟩
      rw [← ef5] at hP hD
      replace h := mi_use ef5 h
      have hv : f5 = rr := Option.some.inj h
      have hP9 := hP.sub (ws' := [(h0, .inr (2, [.ref h0_stepAt, .ref h0_ends, va_rf t_laidOn, .int t_order, .int t_reach, .int t_back])), (h0_stepAt, .inl (k_t_stepAt, 10007, .inl f5))]) [0, 1] rfl
      have hD9 := hD.sub (ws' := [(h0, .inr (2, [.ref h0_stepAt, .ref h0_ends, va_rf t_laidOn, .int t_order, .int t_reach, .int t_back])), (h0_stepAt, .inl (k_t_stepAt, 10007, .inl f5))]) [0, 1] (by decide) rfl
      have hK9 := hK.sub (tys' := [(k_t_stepAt, .int)]) [0] rfl
      exact W.vret hx hb hr (fun t ht hW => ⟨⟨f5, rfl, hv, by rw [ht]; exact hP9, va_K.moved hW.alike hK9, hD9⟩, hS.F ht⟩) hS.2.2 dX2_note_25
def mX2_lay_b3 (N : Nat) (t_reach : Int32) (t_ends : Nat → Int32) (st : Int32 × (Nat → Int32)) : Option ((Int32 × (Nat → Int32)) ⊕ (Int32 × (Nat → Int32))) :=
  match st with
  | (x1, x2) => if t_reach < x1 then some (.inr (x1, x2)) else (mX2_endOf N t_ends x1).bind (fun r6 => (mX2_note N x2 r6 0).bind (fun f8 => mi_let (x1 + 1) (fun v9 => some (.inl (v9, f8)))))
def mX2_lay_b50 (N : Nat) (a2 : Int32) (p0_p : Int32) (p0_a : Int32) (a1 : Int32) (st : Int32 × Int32 × Int32 × (Nat → Int32) × (Nat → Int32)) : Option ((Int32 × Int32 × Int32 × (Nat → Int32) × (Nat → Int32)) ⊕ (Int32 × Int32 × Int32 × (Nat → Int32) × (Nat → Int32))) :=
  match st with
  | (x11, x12, x13, x14, x15) => if 128 ≤ x12 then some (.inr (x11, x12, x13, x14, x15)) else if x11 = (-1) then some (.inr (x11, x12, x13, x14, x15)) else if a2 ≤ ((2 * x13) * x13) then some (.inr (x11, x12, x13, x14, x15)) else if x12 < 0 ∨ 128 ≤ x12.toNatClampNeg then none else mi_let (upd x15 x12.toNatClampNeg x11) (fun f25 => (mX2_note N x14 x11 x12).bind (fun f27 => (mX0_sum N p0_p p0_a x11 a1).bind (fun r28 => mi_let (x12 + 1) (fun v29 => some (.inl (r28, v29, x12, f27, f25))))))
def mX2_lay (N : Nat) (t_reach : Int32) (t_stepAt : Nat → Int32) (t_ends : Nat → Int32) (p0_p : Int32) (p0_a : Int32) (a1 : Int32) (a2 : Int32) : Option (Int32 × Int32 × Int32 × (Nat → Int32) × (Nat → Int32)) := (mi_run (mX2_lay_b3 N t_reach t_ends) N (1, t_stepAt)).bind (fun o10 => match o10 with | (y3, y4) => (mi_run (mX2_lay_b50 N a2 p0_p p0_a a1) N (a1, 1, 0, y4, t_ends)).bind (fun o30 => match o30 with | (y16, y17, y18, y19, y20) => (mX2_endOf N y20 y18).bind (fun r31 => (mX0_sum N p0_p p0_a y16 r31).bind (fun r32 => (mX0_opposite N p0_p r32).bind (fun r33 => some (a2, y18, r33, y19, y20))))))
abbrev rmX2_lay : Room := { frames := 2, cells := 0, slots := 0, locals := 60 }
set_option maxHeartbeats 4000000 in
set_option maxRecDepth 100000 in
theorem ctX2_lay (l : Launch) (N : Nat) (dC : Nat → ClassId) (dI : Nat → Nat → Nat) (sz : Nat) (h0 : Nat) (h0_stepAt : Nat) (h0_ends : Nat) (h1 : Nat) (k_t_stepAt : ClassId) (k_t_ends : ClassId) (t_laidOn : Option Nat) (t_order : Int32) (t_reach : Int32) (t_back : Int32) (t_stepAt : Nat → Int32) (t_ends : Nat → Int32) (p0_p : Int32) (p0_a : Int32) (p0_b : Int32) (p0_from : Int32) (p0_kernelPoint : Int32) (p0_kernelOrder : Int32) (p0_points : Int32) (p0_inner : Int32) (p0_outer : Int32) (p0_makersFound : Int32) (p0_first : Int32) (p0_second : Int32) (a1 : Int32) (a2 : Int32) (rr : Int32 × Int32 × Int32 × (Nat → Int32) × (Nat → Int32)) (h : mX2_lay N t_reach t_stepAt t_ends p0_p p0_a a1 a2 = some rr) : Met l yX2_lay wsX2_lay rmX2_lay (va_Pc [.ref h0, .ref h1, .int a1, .int a2] (fun U => U.heap.size = sz ∧ va_P (dC, dI) vwCl [(h0, .inr (2, [.ref h0_stepAt, .ref h0_ends, va_rf t_laidOn, .int t_order, .int t_reach, .int t_back])), (h0_stepAt, .inl (k_t_stepAt, 10007, .inl t_stepAt)), (h0_ends, .inl (k_t_ends, 128, .inl t_ends)), (h1, .inr (0, [.int p0_p, .int p0_a, .int p0_b, .int p0_from, .int p0_kernelPoint, .int p0_kernelOrder, .int p0_points, .int p0_inner, .int p0_outer, .int p0_makersFound, .int p0_first, .int p0_second]))] U.heap ∧ va_K (dC, dI) vwCl [(k_t_stepAt, .int), (k_t_ends, .int)] U ∧ nw_all U ∧ va_D (fun _ => True) [(h0, .inr (2, [.ref h0_stepAt, .ref h0_ends, va_rf t_laidOn, .int t_order, .int t_reach, .int t_back])), (h0_stepAt, .inl (k_t_stepAt, 10007, .inl t_stepAt)), (h0_ends, .inl (k_t_ends, 128, .inl t_ends)), (h1, .inr (0, [.int p0_p, .int p0_a, .int p0_b, .int p0_from, .int p0_kernelPoint, .int p0_kernelOrder, .int p0_points, .int p0_inner, .int p0_outer, .int p0_makersFound, .int p0_first, .int p0_second]))])) (va_Qv (fun (u : Int32 × Int32 × Int32 × (Nat → Int32) × (Nat → Int32)) => u = rr) (fun (u : Int32 × Int32 × Int32 × (Nat → Int32) × (Nat → Int32)) t => match u with | (u0, u1, u2, u3, u4) => va_P (dC, dI) vwCl [(h0, .inr (2, [.ref h0_stepAt, .ref h0_ends, .ref h1, .int u0, .int u1, .int u2])), (h0_stepAt, .inl (k_t_stepAt, 10007, .inl u3)), (h0_ends, .inl (k_t_ends, 128, .inl u4)), (h1, .inr (0, [.int p0_p, .int p0_a, .int p0_b, .int p0_from, .int p0_kernelPoint, .int p0_kernelOrder, .int p0_points, .int p0_inner, .int p0_outer, .int p0_makersFound, .int p0_first, .int p0_second]))] t.heap ∧ va_K (dC, dI) vwCl [(k_t_stepAt, .int), (k_t_ends, .int)] t ∧ va_D (va_A [(h0, .inr (2, [.ref h0_stepAt, .ref h0_ends, va_rf t_laidOn, .int t_order, .int t_reach, .int t_back])), (h0_stepAt, .inl (k_t_stepAt, 10007, .inl t_stepAt)), (h0_ends, .inl (k_t_ends, 128, .inl t_ends)), (h1, .inr (0, [.int p0_p, .int p0_a, .int p0_b, .int p0_from, .int p0_kernelPoint, .int p0_kernelOrder, .int p0_points, .int p0_inner, .int p0_outer, .int p0_makersFound, .int p0_first, .int p0_second]))] sz) [(h0, .inr (2, [.ref h0_stepAt, .ref h0_ends, .ref h1, .int u0, .int u1, .int u2])), (h0_stepAt, .inl (k_t_stepAt, 10007, .inl u3)), (h0_ends, .inl (k_t_ends, 128, .inl u4)), (h1, .inr (0, [.int p0_p, .int p0_a, .int p0_b, .int p0_from, .int p0_kernelPoint, .int p0_kernelOrder, .int p0_points, .int p0_inner, .int p0_outer, .int p0_makersFound, .int p0_first, .int p0_second]))]) (va_A [(h0, .inr (2, [.ref h0_stepAt, .ref h0_ends, va_rf t_laidOn, .int t_order, .int t_reach, .int t_back])), (h0_stepAt, .inl (k_t_stepAt, 10007, .inl t_stepAt)), (h0_ends, .inl (k_t_ends, 128, .inl t_ends)), (h1, .inr (0, [.int p0_p, .int p0_a, .int p0_b, .int p0_from, .int p0_kernelPoint, .int p0_kernelOrder, .int p0_points, .int p0_inner, .int p0_outer, .int p0_makersFound, .int p0_first, .int p0_second]))] sz)) 0 0 (va_A [(h0, .inr (2, [.ref h0_stepAt, .ref h0_ends, va_rf t_laidOn, .int t_order, .int t_reach, .int t_back])), (h0_stepAt, .inl (k_t_stepAt, 10007, .inl t_stepAt)), (h0_ends, .inl (k_t_ends, 128, .inl t_ends)), (h1, .inr (0, [.int p0_p, .int p0_a, .int p0_b, .int p0_from, .int p0_kernelPoint, .int p0_kernelOrder, .int p0_points, .int p0_inner, .int p0_outer, .int p0_makersFound, .int p0_first, .int p0_second]))] sz) := by
  refine Met.ofW (cc := cX2_lay) (maxL := 6) (ret := none) (by decide) rfl ?_
  intro p e s m args below meth c s₁ B hml hv
  obtain ⟨rfl, hsz, hP, hK, hN, hD0⟩ := hv
  have hx := B.exec
  have hb := B.bytes
  have hr := B.returns
  have hts := atoms_spec (ws := wsX2_lay) B.pre
  have hown : s.vm.findClass RX2 = some m.cls := findClass_of_methodNamed B.named
  have hlocks := B.notSynchronized
  subst hsz
  have hD := hD0.self (sz := s.heap.size)
  generalize hAe : va_A [(h0, .inr (2, [.ref h0_stepAt, .ref h0_ends, va_rf t_laidOn, .int t_order, .int t_reach, .int t_back])), (h0_stepAt, .inl (k_t_stepAt, 10007, .inl t_stepAt)), (h0_ends, .inl (k_t_ends, 128, .inl t_ends)), (h1, .inr (0, [.int p0_p, .int p0_a, .int p0_b, .int p0_from, .int p0_kernelPoint, .int p0_kernelOrder, .int p0_points, .int p0_inner, .int p0_outer, .int p0_makersFound, .int p0_first, .int p0_second]))] s.heap.size = A at hD ⊢
  have hA0 : ∀ q : Nat, s.heap.size ≤ q → A q := fun q h => by rw [← hAe]; exact Or.inr h
  have hS : va_S A s.heap s.heap [] := va_S.rf
  have hP : va_P (dC, dI) vwCl [(h0, .inr (2, [.ref h0_stepAt, .ref h0_ends, va_rf t_laidOn, .int t_order, .int t_reach, .int t_back])), (h0_stepAt, .inl (k_t_stepAt, 10007, .inl t_stepAt)), (h0_ends, .inl (k_t_ends, 128, .inl t_ends)), (h1, .inr (0, [.int p0_p, .int p0_a, .int p0_b, .int p0_from, .int p0_kernelPoint, .int p0_kernelOrder, .int p0_points, .int p0_inner, .int p0_outer, .int p0_makersFound, .int p0_first, .int p0_second]))] s.heap := hP
  have hl := lv_entry ([.ref h0, .ref h1, .int a1, .int a2]) (n := 6) (Nat.le_of_ble_eq_true rfl)
  rw [lg_entry_eq]
  generalize (lg_sl ([.ref h0, .ref h1, .int a1, .int a2]) ++ List.replicate (6 - (lg_sl ([.ref h0, .ref h1, .int a1, .int a2])).length) Slot.unset).toArray = ls at hl ⊢
  have hl : lv_has ls 6 [(0, .ref h0), (1, .ref h1), (2, .int a1), (3, .int a2)] := hl
  dsimp only [mX2_lay] at h
  refine lv_iconst (v := 1) hx hb dX2_lay_0 (by decide) ?_
  refine lv_istore (lv' := [(4, .int 1), (0, .ref h0), (1, .ref h1), (2, .int a1), (3, .int a2)]) hx hb dX2_lay_1 hl (by decide) rfl (fun ls hl => ?_)
  have L3 : ∀ (n : Nat) (x1 : Int32) (x2 : Nat → Int32) (o : Int32 × (Nat → Int32)), mi_run (mX2_lay_b3 N t_reach t_ends) n (x1, x2) = some o → (∀ (y3 : Int32) (y4 : Nat → Int32), o = (y3, y4) → ∀ (H : Heap) (locs : List Loc) (ls : Array Slot), va_P (dC, dI) vwCl [(h0, .inr (2, [.ref h0_stepAt, .ref h0_ends, va_rf t_laidOn, .int t_order, .int t_reach, .int t_back])), (h0_stepAt, .inl (k_t_stepAt, 10007, .inl y4)), (h0_ends, .inl (k_t_ends, 128, .inl t_ends)), (h1, .inr (0, [.int p0_p, .int p0_a, .int p0_b, .int p0_from, .int p0_kernelPoint, .int p0_kernelOrder, .int p0_points, .int p0_inner, .int p0_outer, .int p0_makersFound, .int p0_first, .int p0_second]))] H → va_D A [(h0, .inr (2, [.ref h0_stepAt, .ref h0_ends, va_rf t_laidOn, .int t_order, .int t_reach, .int t_back])), (h0_stepAt, .inl (k_t_stepAt, 10007, .inl y4)), (h0_ends, .inl (k_t_ends, 128, .inl t_ends)), (h1, .inr (0, [.int p0_p, .int p0_a, .int p0_b, .int p0_from, .int p0_kernelPoint, .int p0_kernelOrder, .int p0_points, .int p0_inner, .int p0_outer, .int p0_makersFound, .int p0_first, .int p0_second]))] → va_S A s.heap H locs → lv_has ls 6 [(4, .int y3), (0, .ref h0), (1, .ref h1), (2, .int a1), (3, .int a2)] → W p l e (headSpec wsX2_lay rmX2_lay).room s m (([.ref h0, .ref h1, .int a1, .int a2] : List Value).toArray) below meth c H locs 0 0 (MQ below (va_Qv (fun (u : Int32 × Int32 × Int32 × (Nat → Int32) × (Nat → Int32)) => u = rr) (fun (u : Int32 × Int32 × Int32 × (Nat → Int32) × (Nat → Int32)) t => match u with | (u0, u1, u2, u3, u4) => va_P (dC, dI) vwCl [(h0, .inr (2, [.ref h0_stepAt, .ref h0_ends, .ref h1, .int u0, .int u1, .int u2])), (h0_stepAt, .inl (k_t_stepAt, 10007, .inl u3)), (h0_ends, .inl (k_t_ends, 128, .inl u4)), (h1, .inr (0, [.int p0_p, .int p0_a, .int p0_b, .int p0_from, .int p0_kernelPoint, .int p0_kernelOrder, .int p0_points, .int p0_inner, .int p0_outer, .int p0_makersFound, .int p0_first, .int p0_second]))] t.heap ∧ va_K (dC, dI) vwCl [(k_t_stepAt, .int), (k_t_ends, .int)] t ∧ va_D (A) [(h0, .inr (2, [.ref h0_stepAt, .ref h0_ends, .ref h1, .int u0, .int u1, .int u2])), (h0_stepAt, .inl (k_t_stepAt, 10007, .inl u3)), (h0_ends, .inl (k_t_ends, 128, .inl u4)), (h1, .inr (0, [.int p0_p, .int p0_a, .int p0_b, .int p0_from, .int p0_kernelPoint, .int p0_kernelOrder, .int p0_points, .int p0_inner, .int p0_outer, .int p0_makersFound, .int p0_first, .int p0_second]))]) (A)) (([.ref h0, .ref h1, .int a1, .int a2] : List Value).toArray) s 0 0 A) (F0 m 29 ls [])) → ∀ (H : Heap) (locs : List Loc) (ls : Array Slot), va_P (dC, dI) vwCl [(h0, .inr (2, [.ref h0_stepAt, .ref h0_ends, va_rf t_laidOn, .int t_order, .int t_reach, .int t_back])), (h0_stepAt, .inl (k_t_stepAt, 10007, .inl x2)), (h0_ends, .inl (k_t_ends, 128, .inl t_ends)), (h1, .inr (0, [.int p0_p, .int p0_a, .int p0_b, .int p0_from, .int p0_kernelPoint, .int p0_kernelOrder, .int p0_points, .int p0_inner, .int p0_outer, .int p0_makersFound, .int p0_first, .int p0_second]))] H → va_D A [(h0, .inr (2, [.ref h0_stepAt, .ref h0_ends, va_rf t_laidOn, .int t_order, .int t_reach, .int t_back])), (h0_stepAt, .inl (k_t_stepAt, 10007, .inl x2)), (h0_ends, .inl (k_t_ends, 128, .inl t_ends)), (h1, .inr (0, [.int p0_p, .int p0_a, .int p0_b, .int p0_from, .int p0_kernelPoint, .int p0_kernelOrder, .int p0_points, .int p0_inner, .int p0_outer, .int p0_makersFound, .int p0_first, .int p0_second]))] → va_S A s.heap H locs → lv_has ls 6 [(4, .int x1), (0, .ref h0), (1, .ref h1), (2, .int a1), (3, .int a2)] → W p l e (headSpec wsX2_lay rmX2_lay).room s m (([.ref h0, .ref h1, .int a1, .int a2] : List Value).toArray) below meth c H locs 0 0 (MQ below (va_Qv (fun (u : Int32 × Int32 × Int32 × (Nat → Int32) × (Nat → Int32)) => u = rr) (fun (u : Int32 × Int32 × Int32 × (Nat → Int32) × (Nat → Int32)) t => match u with | (u0, u1, u2, u3, u4) => va_P (dC, dI) vwCl [(h0, .inr (2, [.ref h0_stepAt, .ref h0_ends, .ref h1, .int u0, .int u1, .int u2])), (h0_stepAt, .inl (k_t_stepAt, 10007, .inl u3)), (h0_ends, .inl (k_t_ends, 128, .inl u4)), (h1, .inr (0, [.int p0_p, .int p0_a, .int p0_b, .int p0_from, .int p0_kernelPoint, .int p0_kernelOrder, .int p0_points, .int p0_inner, .int p0_outer, .int p0_makersFound, .int p0_first, .int p0_second]))] t.heap ∧ va_K (dC, dI) vwCl [(k_t_stepAt, .int), (k_t_ends, .int)] t ∧ va_D (A) [(h0, .inr (2, [.ref h0_stepAt, .ref h0_ends, .ref h1, .int u0, .int u1, .int u2])), (h0_stepAt, .inl (k_t_stepAt, 10007, .inl u3)), (h0_ends, .inl (k_t_ends, 128, .inl u4)), (h1, .inr (0, [.int p0_p, .int p0_a, .int p0_b, .int p0_from, .int p0_kernelPoint, .int p0_kernelOrder, .int p0_points, .int p0_inner, .int p0_outer, .int p0_makersFound, .int p0_first, .int p0_second]))]) (A)) (([.ref h0, .ref h1, .int a1, .int a2] : List Value).toArray) s 0 0 A) (F0 m 3 ls []) := by
    intro n
    induction n with
    | zero => intro x1 x2 o h; exact absurd h (mi_run_0 _ _ _)
    | succ n ih =>
      intro x1 x2 o h hkE H locs ls hP hD hS hl
      obtain ⟨w, h, hA, hB⟩ := mi_run_s h
      dsimp only [mX2_lay_b3] at h
      refine lv_iload hx hb dX2_lay_3 (lv_at hl 0 rfl) ?_
      refine lv_aload_n hx hb dX2_lay_5 rfl (lv_at hl 1 rfl) ?_
      refine va_get (D := (dC, dI)) (ci := 2) (v := .int t_reach) (C := RX2) (T := TX2) (N := 6) hx hb hts (by decide +kernel) hown hK hP 0 rfl rfl 4 (by decide) (hts (.fieldLink RX2 25 "PointRings$Strides" "reach" "I") (by decide +kernel)) (fun _ h9 => h9) rfl dX2_lay_6 ?_
      refine lv_icmp_gt (tgt := 29) hx hb dX2_lay_9 (by decide) (fun c5 => ?_) (fun c5 => ?_)
      · replace h := (if_pos c5).symm.trans h
        exact hkE _ _ (hB _ (Option.some.inj h).symm) _ _ ls hP hD hS (lv_sub hl [0, 1, 2, 3, 4] rfl)
      · replace h := (if_neg c5).symm.trans h
        refine lv_aload_n hx hb dX2_lay_12 rfl (lv_at hl 1 rfl) ?_
        refine lv_aload_n hx hb dX2_lay_13 rfl (lv_at hl 1 rfl) ?_
        refine lv_iload hx hb dX2_lay_14 (lv_at hl 0 rfl) ?_
        obtain ⟨r6, hr6, h⟩ := Option.bind_eq_some_iff.mp h
        have hPc := hP.sub (ws' := [(h0, .inr (2, [.ref h0_stepAt, .ref h0_ends, va_rf t_laidOn, .int t_order, .int t_reach, .int t_back])), (h0_ends, .inl (k_t_ends, 128, .inl t_ends))]) [0, 2] rfl
        have hKc := hK.sub (tys' := [(k_t_ends, .int)]) [1] rfl
        refine vp_callSi (W.runV (As := [.int x1]) (rest := [.ref h0]) ⟨hx, hb, hml, hown, hts⟩ (ctX2_endOf l N dC dI  h0 h0_ends h0_stepAt k_t_ends t_laidOn t_order t_reach t_back t_ends x1 r6 hr6) (cwV 1 hts gX2_lay_X2_endOf rfl rfl rfl (by decide +kernel) ⟨Nat.le_of_ble_eq_true rfl, Nat.le_of_ble_eq_true rfl⟩) ⟨fun a U g mk q => by obtain ⟨q0, qP, qK, qN⟩ := q; exact ⟨q0, qP, va_K.moved (u := U) (U := U.calling g mk a) (Vm.Alike.refl U.vm) qK, nw_same (u := U) (U := U.calling g mk a) rfl qN⟩, va_recv hKc hPc (ci := 2) (q0 := 0) rfl rfl, fun U hU hW => ⟨rfl, by rw [hU]; exact hPc, va_K.moved hW.alike hKc, nw_warm hW hN⟩⟩ rfl rfl hl.1 rfl (lv_room (Nat.le_of_ble_eq_true rfl)) dX2_lay_16 ⟨Nat.le_of_ble_eq_true rfl, Nat.le_of_ble_eq_true rfl⟩) (fun q9 eq9 => ?_)
        subst q9
        refine lv_iconst (v := 0) hx hb dX2_lay_19 (by decide) ?_
        obtain ⟨r7, hr7, h⟩ := Option.bind_eq_some_iff.mp h
        have hPc := hP.sub (ws' := [(h0, .inr (2, [.ref h0_stepAt, .ref h0_ends, va_rf t_laidOn, .int t_order, .int t_reach, .int t_back])), (h0_stepAt, .inl (k_t_stepAt, 10007, .inl x2))]) [0, 1] rfl
        have hDc := hD.sub (ws' := [(h0, .inr (2, [.ref h0_stepAt, .ref h0_ends, va_rf t_laidOn, .int t_order, .int t_reach, .int t_back])), (h0_stepAt, .inl (k_t_stepAt, 10007, .inl x2))]) [0, 1] (by decide) rfl
        have hKc := hK.sub (tys' := [(k_t_stepAt, .int)]) [0] rfl
        have hFc := va_free (wc := [(h0, .inr (2, [.ref h0_stepAt, .ref h0_ends, va_rf t_laidOn, .int t_order, .int t_reach, .int t_back])), (h0_stepAt, .inl (k_t_stepAt, 10007, .inl x2))]) hD hS hA0 [0, 1] rfl
        refine va_callv (va_runV (As := [.int r6, .int 0]) (rest := []) ⟨hx, hb, hml, hown, hts⟩ (ctX2_note l N dC dI _ h0 h0_stepAt h0_ends k_t_stepAt t_laidOn t_order t_reach t_back x2 r6 0 r7 hr7) (cwV 2 hts gX2_lay_X2_note rfl rfl rfl (by decide +kernel) ⟨Nat.le_of_ble_eq_true rfl, Nat.le_of_ble_eq_true rfl⟩) ⟨fun a U g mk q => by obtain ⟨q0, q1, qP, qK, qN, qD⟩ := q; exact ⟨q0, q1, qP, va_K.moved (u := U) (U := U.calling g mk a) (Vm.Alike.refl U.vm) qK, nw_same (u := U) (U := U.calling g mk a) rfl qN, qD⟩, va_recv hKc hPc (ci := 2) (q0 := 0) rfl rfl, fun U hU hW => ⟨rfl, by rw [hU], by rw [hU]; exact hPc, va_K.moved hW.alike hKc, nw_warm hW hN, hDc.weaken (fun _ _ _ _ => trivial)⟩⟩ rfl rfl hl.1 rfl (lv_room (Nat.le_of_ble_eq_true rfl)) dX2_lay_20 ⟨Nat.le_of_ble_eq_true rfl, Nat.le_of_ble_eq_true rfl⟩) hS (fun q _ h => hFc q h) hFc (fun u t H1 locs ht hvm hw hB1 hz1 hk1 hS => ?_)
        obtain ⟨f8, rfl⟩ : ∃ z, z = u := ⟨_, rfl⟩
        obtain ⟨hP1, hK1, hD1⟩ := hB1
        rw [ht] at hP1
        have hK1 := va_K.moved hvm.symm hK1
        subst hw
        try dsimp only at h
        obtain ⟨hP, hD⟩ := va_join (wr := [(h0_ends, .inl (k_t_ends, 128, .inl t_ends)), (h1, .inr (0, [.int p0_p, .int p0_a, .int p0_b, .int p0_from, .int p0_kernelPoint, .int p0_kernelOrder, .int p0_points, .int p0_inner, .int p0_outer, .int p0_makersFound, .int p0_first, .int p0_second]))]) (w1 := [(h0, .inr (2, [.ref h0_stepAt, .ref h0_ends, va_rf t_laidOn, .int t_order, .int t_reach, .int t_back])), (h0_stepAt, .inl (k_t_stepAt, 10007, .inl f8))]) hP hD [0, 1] [2, 3] rfl rfl (by decide) (by decide) hk1 hFc hP1 hD1
        generalize H1 = H at hP hS ⊢
        have hP := hP.sub (ws' := [(h0, .inr (2, [.ref h0_stepAt, .ref h0_ends, va_rf t_laidOn, .int t_order, .int t_reach, .int t_back])), (h0_stepAt, .inl (k_t_stepAt, 10007, .inl f8)), (h0_ends, .inl (k_t_ends, 128, .inl t_ends)), (h1, .inr (0, [.int p0_p, .int p0_a, .int p0_b, .int p0_from, .int p0_kernelPoint, .int p0_kernelOrder, .int p0_points, .int p0_inner, .int p0_outer, .int p0_makersFound, .int p0_first, .int p0_second]))]) [2, 3, 0, 1] rfl
        have hD := hD.sub (ws' := [(h0, .inr (2, [.ref h0_stepAt, .ref h0_ends, va_rf t_laidOn, .int t_order, .int t_reach, .int t_back])), (h0_stepAt, .inl (k_t_stepAt, 10007, .inl f8)), (h0_ends, .inl (k_t_ends, 128, .inl t_ends)), (h1, .inr (0, [.int p0_p, .int p0_a, .int p0_b, .int p0_from, .int p0_kernelPoint, .int p0_kernelOrder, .int p0_points, .int p0_inner, .int p0_outer, .int p0_makersFound, .int p0_first, .int p0_second]))]) [2, 3, 0, 1] (by decide) rfl
        obtain ⟨v9, ev9⟩ : ∃ z : Int32, z = x1 + 1 := ⟨_, rfl⟩
        refine lv_iinc (v := v9) (lv' := [(4, .int v9), (0, .ref h0), (1, .ref h1), (2, .int a1), (3, .int a2)]) hx hb dX2_lay_23 hl (k := 0) rfl (by rw [ev9]; rfl) (by decide) rfl (fun ls hl => ?_)
        replace h := mi_use ev9 h
        refine lv_goto (tgt := 3) hx hb dX2_lay_26 (by decide) ?_
        exact ih _ _ _ (hA _ (Option.some.inj h).symm) hkE _ _ ls hP hD hS (lv_sub hl [0, 1, 2, 3, 4] rfl)
  obtain ⟨o10, ho10, h⟩ := Option.bind_eq_some_iff.mp h
  refine L3 N _ _ o10 ho10 ?_ _ _ ls hP hD hS (lv_sub hl [0, 1, 2, 3, 4] rfl)
  intro y3 y4 eo H locs ls hP hD hS hl
  subst eo
  try dsimp only at h
  refine lv_aload_n hx hb dX2_lay_29 rfl (lv_at hl 1 rfl) ?_
  refine lv_aload_n hx hb dX2_lay_30 rfl (lv_at hl 2 rfl) ?_
  refine va_put (D := (dC, dI)) (ci := 2) (v := .ref h1) (ty := .object "PointRings$Curve") (C := RX2) (T := TX2) (N := 6) hx hb hts (by decide +kernel) tyX2 tyX2_ok nmX2 hown hK hP hD hS 0 rfl rfl 2 (by decide) (hts (.fieldLink RX2 36 "PointRings$Strides" "laidOn" "LPointRings$Curve;") (by decide +kernel)) (fun _ h9 => h9) rfl (by decide +kernel) rfl rfl (Nat.le_of_ble_eq_true rfl) dX2_lay_31 (fun H locs hP hD hS => ?_)
  have hP : va_P (dC, dI) vwCl [(h0, .inr (2, [.ref h0_stepAt, .ref h0_ends, .ref h1, .int t_order, .int t_reach, .int t_back])), (h0_stepAt, .inl (k_t_stepAt, 10007, .inl y4)), (h0_ends, .inl (k_t_ends, 128, .inl t_ends)), (h1, .inr (0, [.int p0_p, .int p0_a, .int p0_b, .int p0_from, .int p0_kernelPoint, .int p0_kernelOrder, .int p0_points, .int p0_inner, .int p0_outer, .int p0_makersFound, .int p0_first, .int p0_second]))] H := hP
  have hD : va_D A [(h0, .inr (2, [.ref h0_stepAt, .ref h0_ends, .ref h1, .int t_order, .int t_reach, .int t_back])), (h0_stepAt, .inl (k_t_stepAt, 10007, .inl y4)), (h0_ends, .inl (k_t_ends, 128, .inl t_ends)), (h1, .inr (0, [.int p0_p, .int p0_a, .int p0_b, .int p0_from, .int p0_kernelPoint, .int p0_kernelOrder, .int p0_points, .int p0_inner, .int p0_outer, .int p0_makersFound, .int p0_first, .int p0_second]))] := hD
  refine lv_aload_n hx hb dX2_lay_34 rfl (lv_at hl 1 rfl) ?_
  refine lv_iload_n hx hb dX2_lay_35 rfl (lv_at hl 4 rfl) ?_
  refine va_put (D := (dC, dI)) (ci := 2) (v := .int a2) (ty := .int) (C := RX2) (T := TX2) (N := 6) hx hb hts (by decide +kernel) tyX2 tyX2_ok nmX2 hown hK hP hD hS 0 rfl rfl 3 (by decide) (hts (.fieldLink RX2 18 "PointRings$Strides" "order" "I") (by decide +kernel)) (fun _ h9 => h9) rfl (by decide +kernel) rfl rfl (Nat.le_of_ble_eq_true rfl) dX2_lay_36 (fun H locs hP hD hS => ?_)
  have hP : va_P (dC, dI) vwCl [(h0, .inr (2, [.ref h0_stepAt, .ref h0_ends, .ref h1, .int a2, .int t_reach, .int t_back])), (h0_stepAt, .inl (k_t_stepAt, 10007, .inl y4)), (h0_ends, .inl (k_t_ends, 128, .inl t_ends)), (h1, .inr (0, [.int p0_p, .int p0_a, .int p0_b, .int p0_from, .int p0_kernelPoint, .int p0_kernelOrder, .int p0_points, .int p0_inner, .int p0_outer, .int p0_makersFound, .int p0_first, .int p0_second]))] H := hP
  have hD : va_D A [(h0, .inr (2, [.ref h0_stepAt, .ref h0_ends, .ref h1, .int a2, .int t_reach, .int t_back])), (h0_stepAt, .inl (k_t_stepAt, 10007, .inl y4)), (h0_ends, .inl (k_t_ends, 128, .inl t_ends)), (h1, .inr (0, [.int p0_p, .int p0_a, .int p0_b, .int p0_from, .int p0_kernelPoint, .int p0_kernelOrder, .int p0_points, .int p0_inner, .int p0_outer, .int p0_makersFound, .int p0_first, .int p0_second]))] := hD
  refine lv_aload_n hx hb dX2_lay_39 rfl (lv_at hl 1 rfl) ?_
  refine lv_iconst (v := 0) hx hb dX2_lay_40 (by decide) ?_
  refine va_put (D := (dC, dI)) (ci := 2) (v := .int 0) (ty := .int) (C := RX2) (T := TX2) (N := 6) hx hb hts (by decide +kernel) tyX2 tyX2_ok nmX2 hown hK hP hD hS 0 rfl rfl 4 (by decide) (hts (.fieldLink RX2 25 "PointRings$Strides" "reach" "I") (by decide +kernel)) (fun _ h9 => h9) rfl (by decide +kernel) rfl rfl (Nat.le_of_ble_eq_true rfl) dX2_lay_41 (fun H locs hP hD hS => ?_)
  have hP : va_P (dC, dI) vwCl [(h0, .inr (2, [.ref h0_stepAt, .ref h0_ends, .ref h1, .int a2, .int 0, .int t_back])), (h0_stepAt, .inl (k_t_stepAt, 10007, .inl y4)), (h0_ends, .inl (k_t_ends, 128, .inl t_ends)), (h1, .inr (0, [.int p0_p, .int p0_a, .int p0_b, .int p0_from, .int p0_kernelPoint, .int p0_kernelOrder, .int p0_points, .int p0_inner, .int p0_outer, .int p0_makersFound, .int p0_first, .int p0_second]))] H := hP
  have hD : va_D A [(h0, .inr (2, [.ref h0_stepAt, .ref h0_ends, .ref h1, .int a2, .int 0, .int t_back])), (h0_stepAt, .inl (k_t_stepAt, 10007, .inl y4)), (h0_ends, .inl (k_t_ends, 128, .inl t_ends)), (h1, .inr (0, [.int p0_p, .int p0_a, .int p0_b, .int p0_from, .int p0_kernelPoint, .int p0_kernelOrder, .int p0_points, .int p0_inner, .int p0_outer, .int p0_makersFound, .int p0_first, .int p0_second]))] := hD
  refine lv_iload_n hx hb dX2_lay_44 rfl (lv_at hl 3 rfl) ?_
  refine lv_istore (lv' := [(4, .int a1), (0, .ref h0), (1, .ref h1), (2, .int a1), (3, .int a2)]) hx hb dX2_lay_45 hl (by decide) rfl (fun ls hl => ?_)
  refine lv_iconst (v := 1) hx hb dX2_lay_47 (by decide) ?_
  refine lv_istore (lv' := [(5, .int 1), (4, .int a1), (0, .ref h0), (1, .ref h1), (2, .int a1), (3, .int a2)]) hx hb dX2_lay_48 hl (by decide) rfl (fun ls hl => ?_)
  have L50 : ∀ (n : Nat) (x11 : Int32) (x12 : Int32) (x13 : Int32) (x14 : Nat → Int32) (x15 : Nat → Int32) (o : Int32 × Int32 × Int32 × (Nat → Int32) × (Nat → Int32)), mi_run (mX2_lay_b50 N a2 p0_p p0_a a1) n (x11, x12, x13, x14, x15) = some o → (∀ (y16 : Int32) (y17 : Int32) (y18 : Int32) (y19 : Nat → Int32) (y20 : Nat → Int32), o = (y16, y17, y18, y19, y20) → ∀ (H : Heap) (locs : List Loc) (ls : Array Slot), va_P (dC, dI) vwCl [(h0, .inr (2, [.ref h0_stepAt, .ref h0_ends, .ref h1, .int a2, .int y18, .int t_back])), (h0_stepAt, .inl (k_t_stepAt, 10007, .inl y19)), (h0_ends, .inl (k_t_ends, 128, .inl y20)), (h1, .inr (0, [.int p0_p, .int p0_a, .int p0_b, .int p0_from, .int p0_kernelPoint, .int p0_kernelOrder, .int p0_points, .int p0_inner, .int p0_outer, .int p0_makersFound, .int p0_first, .int p0_second]))] H → va_D A [(h0, .inr (2, [.ref h0_stepAt, .ref h0_ends, .ref h1, .int a2, .int y18, .int t_back])), (h0_stepAt, .inl (k_t_stepAt, 10007, .inl y19)), (h0_ends, .inl (k_t_ends, 128, .inl y20)), (h1, .inr (0, [.int p0_p, .int p0_a, .int p0_b, .int p0_from, .int p0_kernelPoint, .int p0_kernelOrder, .int p0_points, .int p0_inner, .int p0_outer, .int p0_makersFound, .int p0_first, .int p0_second]))] → va_S A s.heap H locs → lv_has ls 6 [(4, .int y16), (5, .int y17), (0, .ref h0), (1, .ref h1), (2, .int a1), (3, .int a2)] → W p l e (headSpec wsX2_lay rmX2_lay).room s m (([.ref h0, .ref h1, .int a1, .int a2] : List Value).toArray) below meth c H locs 0 0 (MQ below (va_Qv (fun (u : Int32 × Int32 × Int32 × (Nat → Int32) × (Nat → Int32)) => u = rr) (fun (u : Int32 × Int32 × Int32 × (Nat → Int32) × (Nat → Int32)) t => match u with | (u0, u1, u2, u3, u4) => va_P (dC, dI) vwCl [(h0, .inr (2, [.ref h0_stepAt, .ref h0_ends, .ref h1, .int u0, .int u1, .int u2])), (h0_stepAt, .inl (k_t_stepAt, 10007, .inl u3)), (h0_ends, .inl (k_t_ends, 128, .inl u4)), (h1, .inr (0, [.int p0_p, .int p0_a, .int p0_b, .int p0_from, .int p0_kernelPoint, .int p0_kernelOrder, .int p0_points, .int p0_inner, .int p0_outer, .int p0_makersFound, .int p0_first, .int p0_second]))] t.heap ∧ va_K (dC, dI) vwCl [(k_t_stepAt, .int), (k_t_ends, .int)] t ∧ va_D (A) [(h0, .inr (2, [.ref h0_stepAt, .ref h0_ends, .ref h1, .int u0, .int u1, .int u2])), (h0_stepAt, .inl (k_t_stepAt, 10007, .inl u3)), (h0_ends, .inl (k_t_ends, 128, .inl u4)), (h1, .inr (0, [.int p0_p, .int p0_a, .int p0_b, .int p0_from, .int p0_kernelPoint, .int p0_kernelOrder, .int p0_points, .int p0_inner, .int p0_outer, .int p0_makersFound, .int p0_first, .int p0_second]))]) (A)) (([.ref h0, .ref h1, .int a1, .int a2] : List Value).toArray) s 0 0 A) (F0 m 119 ls [])) → ∀ (H : Heap) (locs : List Loc) (ls : Array Slot), va_P (dC, dI) vwCl [(h0, .inr (2, [.ref h0_stepAt, .ref h0_ends, .ref h1, .int a2, .int x13, .int t_back])), (h0_stepAt, .inl (k_t_stepAt, 10007, .inl x14)), (h0_ends, .inl (k_t_ends, 128, .inl x15)), (h1, .inr (0, [.int p0_p, .int p0_a, .int p0_b, .int p0_from, .int p0_kernelPoint, .int p0_kernelOrder, .int p0_points, .int p0_inner, .int p0_outer, .int p0_makersFound, .int p0_first, .int p0_second]))] H → va_D A [(h0, .inr (2, [.ref h0_stepAt, .ref h0_ends, .ref h1, .int a2, .int x13, .int t_back])), (h0_stepAt, .inl (k_t_stepAt, 10007, .inl x14)), (h0_ends, .inl (k_t_ends, 128, .inl x15)), (h1, .inr (0, [.int p0_p, .int p0_a, .int p0_b, .int p0_from, .int p0_kernelPoint, .int p0_kernelOrder, .int p0_points, .int p0_inner, .int p0_outer, .int p0_makersFound, .int p0_first, .int p0_second]))] → va_S A s.heap H locs → lv_has ls 6 [(4, .int x11), (5, .int x12), (0, .ref h0), (1, .ref h1), (2, .int a1), (3, .int a2)] → W p l e (headSpec wsX2_lay rmX2_lay).room s m (([.ref h0, .ref h1, .int a1, .int a2] : List Value).toArray) below meth c H locs 0 0 (MQ below (va_Qv (fun (u : Int32 × Int32 × Int32 × (Nat → Int32) × (Nat → Int32)) => u = rr) (fun (u : Int32 × Int32 × Int32 × (Nat → Int32) × (Nat → Int32)) t => match u with | (u0, u1, u2, u3, u4) => va_P (dC, dI) vwCl [(h0, .inr (2, [.ref h0_stepAt, .ref h0_ends, .ref h1, .int u0, .int u1, .int u2])), (h0_stepAt, .inl (k_t_stepAt, 10007, .inl u3)), (h0_ends, .inl (k_t_ends, 128, .inl u4)), (h1, .inr (0, [.int p0_p, .int p0_a, .int p0_b, .int p0_from, .int p0_kernelPoint, .int p0_kernelOrder, .int p0_points, .int p0_inner, .int p0_outer, .int p0_makersFound, .int p0_first, .int p0_second]))] t.heap ∧ va_K (dC, dI) vwCl [(k_t_stepAt, .int), (k_t_ends, .int)] t ∧ va_D (A) [(h0, .inr (2, [.ref h0_stepAt, .ref h0_ends, .ref h1, .int u0, .int u1, .int u2])), (h0_stepAt, .inl (k_t_stepAt, 10007, .inl u3)), (h0_ends, .inl (k_t_ends, 128, .inl u4)), (h1, .inr (0, [.int p0_p, .int p0_a, .int p0_b, .int p0_from, .int p0_kernelPoint, .int p0_kernelOrder, .int p0_points, .int p0_inner, .int p0_outer, .int p0_makersFound, .int p0_first, .int p0_second]))]) (A)) (([.ref h0, .ref h1, .int a1, .int a2] : List Value).toArray) s 0 0 A) (F0 m 50 ls []) := by
    intro n
    induction n with
    | zero => intro x11 x12 x13 x14 x15 o h; exact absurd h (mi_run_0 _ _ _)
    | succ n ih =>
      intro x11 x12 x13 x14 x15 o h hkE H locs ls hP hD hS hl
      obtain ⟨w, h, hA, hB⟩ := mi_run_s h
      dsimp only [mX2_lay_b50] at h
      refine lv_iload hx hb dX2_lay_50 (lv_at hl 1 rfl) ?_
      refine lv_aload_n hx hb dX2_lay_52 rfl (lv_at hl 2 rfl) ?_
      refine va_get (D := (dC, dI)) (ci := 2) (v := .ref h0_ends) (C := RX2) (T := TX2) (N := 6) hx hb hts (by decide +kernel) hown hK hP 0 rfl rfl 1 (by decide) (hts (.fieldLink RX2 15 "PointRings$Strides" "ends" "[I") (by decide +kernel)) (fun _ h9 => h9) rfl dX2_lay_53 ?_
      refine va_alen (v := 128) hx hb hK hP 2 1 rfl rfl rfl dX2_lay_56 ?_
      refine lv_icmp_ge (tgt := 119) hx hb dX2_lay_57 (by decide) (fun c21 => ?_) (fun c21 => ?_)
      · replace h := (if_pos c21).symm.trans h
        exact hkE _ _ _ _ _ (hB _ (Option.some.inj h).symm) _ _ ls hP hD hS (lv_sub hl [0, 1, 2, 3, 4, 5] rfl)
      · replace h := (if_neg c21).symm.trans h
        refine lv_iload hx hb dX2_lay_60 (lv_at hl 0 rfl) ?_
        refine lv_iconst (v := (-1)) hx hb dX2_lay_62 (by decide) ?_
        refine lv_icmp_eq (tgt := 119) hx hb dX2_lay_63 (by decide) (fun c22 => ?_) (fun c22 => ?_)
        · replace h := (if_pos c22).symm.trans h
          exact hkE _ _ _ _ _ (hB _ (Option.some.inj h).symm) _ _ ls hP hD hS (lv_sub hl [0, 1, 2, 3, 4, 5] rfl)
        · replace h := (if_neg c22).symm.trans h
          refine lv_iconst (v := 2) hx hb dX2_lay_66 (by decide) ?_
          refine lv_aload_n hx hb dX2_lay_67 rfl (lv_at hl 2 rfl) ?_
          refine va_get (D := (dC, dI)) (ci := 2) (v := .int x13) (C := RX2) (T := TX2) (N := 6) hx hb hts (by decide +kernel) hown hK hP 0 rfl rfl 4 (by decide) (hts (.fieldLink RX2 25 "PointRings$Strides" "reach" "I") (by decide +kernel)) (fun _ h9 => h9) rfl dX2_lay_68 ?_
          refine lv_imul hx hb dX2_lay_71 ?_
          refine lv_aload_n hx hb dX2_lay_72 rfl (lv_at hl 2 rfl) ?_
          refine va_get (D := (dC, dI)) (ci := 2) (v := .int x13) (C := RX2) (T := TX2) (N := 6) hx hb hts (by decide +kernel) hown hK hP 0 rfl rfl 4 (by decide) (hts (.fieldLink RX2 25 "PointRings$Strides" "reach" "I") (by decide +kernel)) (fun _ h9 => h9) rfl dX2_lay_73 ?_
          refine lv_imul hx hb dX2_lay_76 ?_
          refine lv_iload_n hx hb dX2_lay_77 rfl (lv_at hl 5 rfl) ?_
          refine lv_icmp_ge (tgt := 119) hx hb dX2_lay_78 (by decide) (fun c23 => ?_) (fun c23 => ?_)
          · replace h := (if_pos c23).symm.trans h
            exact hkE _ _ _ _ _ (hB _ (Option.some.inj h).symm) _ _ ls hP hD hS (lv_sub hl [0, 1, 2, 3, 4, 5] rfl)
          · replace h := (if_neg c23).symm.trans h
            refine lv_aload_n hx hb dX2_lay_81 rfl (lv_at hl 2 rfl) ?_
            refine va_get (D := (dC, dI)) (ci := 2) (v := .ref h0_ends) (C := RX2) (T := TX2) (N := 6) hx hb hts (by decide +kernel) hown hK hP 0 rfl rfl 1 (by decide) (hts (.fieldLink RX2 15 "PointRings$Strides" "ends" "[I") (by decide +kernel)) (fun _ h9 => h9) rfl dX2_lay_82 ?_
            refine lv_iload hx hb dX2_lay_85 (lv_at hl 1 rfl) ?_
            refine lv_iload hx hb dX2_lay_87 (lv_at hl 0 rfl) ?_
            have hi24 : ¬ (x12 < 0 ∨ 128 ≤ x12.toNatClampNeg) := fun hz => absurd ((if_pos hz).symm.trans h) (fun hh => nomatch hh)
            replace h := (if_neg hi24).symm.trans h
            refine va_iast hx hb hK hP hD hS 2 1 rfl rfl hi24 dX2_lay_89 (fun H locs hP hD hS => ?_)
            have hP : va_P (dC, dI) vwCl [(h0, .inr (2, [.ref h0_stepAt, .ref h0_ends, .ref h1, .int a2, .int x13, .int t_back])), (h0_stepAt, .inl (k_t_stepAt, 10007, .inl x14)), (h0_ends, .inl (k_t_ends, 128, .inl (upd x15 x12.toNatClampNeg x11))), (h1, .inr (0, [.int p0_p, .int p0_a, .int p0_b, .int p0_from, .int p0_kernelPoint, .int p0_kernelOrder, .int p0_points, .int p0_inner, .int p0_outer, .int p0_makersFound, .int p0_first, .int p0_second]))] H := hP
            have hD : va_D A [(h0, .inr (2, [.ref h0_stepAt, .ref h0_ends, .ref h1, .int a2, .int x13, .int t_back])), (h0_stepAt, .inl (k_t_stepAt, 10007, .inl x14)), (h0_ends, .inl (k_t_ends, 128, .inl (upd x15 x12.toNatClampNeg x11))), (h1, .inr (0, [.int p0_p, .int p0_a, .int p0_b, .int p0_from, .int p0_kernelPoint, .int p0_kernelOrder, .int p0_points, .int p0_inner, .int p0_outer, .int p0_makersFound, .int p0_first, .int p0_second]))] := hD
            obtain ⟨f25, ef25⟩ : ∃ z : Nat → Int32, z = upd x15 x12.toNatClampNeg x11 := ⟨_, rfl⟩
            rw [← ef25] at hP hD
            replace h := mi_use ef25 h
            refine lv_aload_n hx hb dX2_lay_90 rfl (lv_at hl 2 rfl) ?_
            refine lv_iload hx hb dX2_lay_91 (lv_at hl 0 rfl) ?_
            refine lv_iload hx hb dX2_lay_93 (lv_at hl 1 rfl) ?_
            obtain ⟨r26, hr26, h⟩ := Option.bind_eq_some_iff.mp h
            have hPc := hP.sub (ws' := [(h0, .inr (2, [.ref h0_stepAt, .ref h0_ends, .ref h1, .int a2, .int x13, .int t_back])), (h0_stepAt, .inl (k_t_stepAt, 10007, .inl x14))]) [0, 1] rfl
            have hDc := hD.sub (ws' := [(h0, .inr (2, [.ref h0_stepAt, .ref h0_ends, .ref h1, .int a2, .int x13, .int t_back])), (h0_stepAt, .inl (k_t_stepAt, 10007, .inl x14))]) [0, 1] (by decide) rfl
            have hKc := hK.sub (tys' := [(k_t_stepAt, .int)]) [0] rfl
            have hFc := va_free (wc := [(h0, .inr (2, [.ref h0_stepAt, .ref h0_ends, .ref h1, .int a2, .int x13, .int t_back])), (h0_stepAt, .inl (k_t_stepAt, 10007, .inl x14))]) hD hS hA0 [0, 1] rfl
            refine va_callv (va_runV (As := [.int x11, .int x12]) (rest := []) ⟨hx, hb, hml, hown, hts⟩ (ctX2_note l N dC dI _ h0 h0_stepAt h0_ends k_t_stepAt (some h1) a2 x13 t_back x14 x11 x12 r26 hr26) (cwV 2 hts gX2_lay_X2_note rfl rfl rfl (by decide +kernel) ⟨Nat.le_of_ble_eq_true rfl, Nat.le_of_ble_eq_true rfl⟩) ⟨fun a U g mk q => by obtain ⟨q0, q1, qP, qK, qN, qD⟩ := q; exact ⟨q0, q1, qP, va_K.moved (u := U) (U := U.calling g mk a) (Vm.Alike.refl U.vm) qK, nw_same (u := U) (U := U.calling g mk a) rfl qN, qD⟩, va_recv hKc hPc (ci := 2) (q0 := 0) rfl rfl, fun U hU hW => ⟨rfl, by rw [hU], by rw [hU]; exact hPc, va_K.moved hW.alike hKc, nw_warm hW hN, hDc.weaken (fun _ _ _ _ => trivial)⟩⟩ rfl rfl hl.1 rfl (lv_room (Nat.le_of_ble_eq_true rfl)) dX2_lay_95 ⟨Nat.le_of_ble_eq_true rfl, Nat.le_of_ble_eq_true rfl⟩) hS (fun q _ h => hFc q h) hFc (fun u t H1 locs ht hvm hw hB1 hz1 hk1 hS => ?_)
            obtain ⟨f27, rfl⟩ : ∃ z, z = u := ⟨_, rfl⟩
            obtain ⟨hP1, hK1, hD1⟩ := hB1
            rw [ht] at hP1
            have hK1 := va_K.moved hvm.symm hK1
            subst hw
            try dsimp only at h
            obtain ⟨hP, hD⟩ := va_join (wr := [(h0_ends, .inl (k_t_ends, 128, .inl f25)), (h1, .inr (0, [.int p0_p, .int p0_a, .int p0_b, .int p0_from, .int p0_kernelPoint, .int p0_kernelOrder, .int p0_points, .int p0_inner, .int p0_outer, .int p0_makersFound, .int p0_first, .int p0_second]))]) (w1 := [(h0, .inr (2, [.ref h0_stepAt, .ref h0_ends, .ref h1, .int a2, .int x13, .int t_back])), (h0_stepAt, .inl (k_t_stepAt, 10007, .inl f27))]) hP hD [0, 1] [2, 3] rfl rfl (by decide) (by decide) hk1 hFc hP1 hD1
            generalize H1 = H at hP hS ⊢
            have hP := hP.sub (ws' := [(h0, .inr (2, [.ref h0_stepAt, .ref h0_ends, .ref h1, .int a2, .int x13, .int t_back])), (h0_stepAt, .inl (k_t_stepAt, 10007, .inl f27)), (h0_ends, .inl (k_t_ends, 128, .inl f25)), (h1, .inr (0, [.int p0_p, .int p0_a, .int p0_b, .int p0_from, .int p0_kernelPoint, .int p0_kernelOrder, .int p0_points, .int p0_inner, .int p0_outer, .int p0_makersFound, .int p0_first, .int p0_second]))]) [2, 3, 0, 1] rfl
            have hD := hD.sub (ws' := [(h0, .inr (2, [.ref h0_stepAt, .ref h0_ends, .ref h1, .int a2, .int x13, .int t_back])), (h0_stepAt, .inl (k_t_stepAt, 10007, .inl f27)), (h0_ends, .inl (k_t_ends, 128, .inl f25)), (h1, .inr (0, [.int p0_p, .int p0_a, .int p0_b, .int p0_from, .int p0_kernelPoint, .int p0_kernelOrder, .int p0_points, .int p0_inner, .int p0_outer, .int p0_makersFound, .int p0_first, .int p0_second]))]) [2, 3, 0, 1] (by decide) rfl
            refine lv_aload_n hx hb dX2_lay_98 rfl (lv_at hl 2 rfl) ?_
            refine lv_iload hx hb dX2_lay_99 (lv_at hl 1 rfl) ?_
            refine va_put (D := (dC, dI)) (ci := 2) (v := .int x12) (ty := .int) (C := RX2) (T := TX2) (N := 6) hx hb hts (by decide +kernel) tyX2 tyX2_ok nmX2 hown hK hP hD hS 0 rfl rfl 4 (by decide) (hts (.fieldLink RX2 25 "PointRings$Strides" "reach" "I") (by decide +kernel)) (fun _ h9 => h9) rfl (by decide +kernel) rfl rfl (Nat.le_of_ble_eq_true rfl) dX2_lay_101 (fun H locs hP hD hS => ?_)
            have hP : va_P (dC, dI) vwCl [(h0, .inr (2, [.ref h0_stepAt, .ref h0_ends, .ref h1, .int a2, .int x12, .int t_back])), (h0_stepAt, .inl (k_t_stepAt, 10007, .inl f27)), (h0_ends, .inl (k_t_ends, 128, .inl f25)), (h1, .inr (0, [.int p0_p, .int p0_a, .int p0_b, .int p0_from, .int p0_kernelPoint, .int p0_kernelOrder, .int p0_points, .int p0_inner, .int p0_outer, .int p0_makersFound, .int p0_first, .int p0_second]))] H := hP
            have hD : va_D A [(h0, .inr (2, [.ref h0_stepAt, .ref h0_ends, .ref h1, .int a2, .int x12, .int t_back])), (h0_stepAt, .inl (k_t_stepAt, 10007, .inl f27)), (h0_ends, .inl (k_t_ends, 128, .inl f25)), (h1, .inr (0, [.int p0_p, .int p0_a, .int p0_b, .int p0_from, .int p0_kernelPoint, .int p0_kernelOrder, .int p0_points, .int p0_inner, .int p0_outer, .int p0_makersFound, .int p0_first, .int p0_second]))] := hD
            refine lv_aload_n hx hb dX2_lay_104 rfl (lv_at hl 3 rfl) ?_
            refine lv_iload hx hb dX2_lay_105 (lv_at hl 0 rfl) ?_
            refine lv_iload_n hx hb dX2_lay_107 rfl (lv_at hl 4 rfl) ?_
            obtain ⟨r28, hr28, h⟩ := Option.bind_eq_some_iff.mp h
            have hPc := hP.sub (ws' := [(h1, .inr (0, [.int p0_p, .int p0_a, .int p0_b, .int p0_from, .int p0_kernelPoint, .int p0_kernelOrder, .int p0_points, .int p0_inner, .int p0_outer, .int p0_makersFound, .int p0_first, .int p0_second]))]) [3] rfl
            have hKc := hK.sub (tys' := []) [] rfl
            refine vp_callSi (W.runV (As := [.int x11, .int a1]) (rest := []) ⟨hx, hb, hml, hown, hts⟩ (ctX0_sum l N dC dI  h1 p0_p p0_a p0_b p0_from p0_kernelPoint p0_kernelOrder p0_points p0_inner p0_outer p0_makersFound p0_first p0_second x11 a1 r28 hr28) (cwV 2 hts gX2_lay_X0_sum rfl rfl rfl (by decide +kernel) ⟨Nat.le_of_ble_eq_true rfl, Nat.le_of_ble_eq_true rfl⟩) ⟨fun a U g mk q => by obtain ⟨q0, qP, qK, qN⟩ := q; exact ⟨q0, qP, va_K.moved (u := U) (U := U.calling g mk a) (Vm.Alike.refl U.vm) qK, nw_same (u := U) (U := U.calling g mk a) rfl qN⟩, va_recv hKc hPc (ci := 0) (q0 := 0) rfl rfl, fun U hU hW => ⟨rfl, by rw [hU]; exact hPc, va_K.moved hW.alike hKc, nw_warm hW hN⟩⟩ rfl rfl hl.1 rfl (lv_room (Nat.le_of_ble_eq_true rfl)) dX2_lay_108 ⟨Nat.le_of_ble_eq_true rfl, Nat.le_of_ble_eq_true rfl⟩) (fun q9 eq9 => ?_)
            subst q9
            refine lv_istore (lv' := [(4, .int r28), (5, .int x12), (0, .ref h0), (1, .ref h1), (2, .int a1), (3, .int a2)]) hx hb dX2_lay_111 hl (by decide) rfl (fun ls hl => ?_)
            obtain ⟨v29, ev29⟩ : ∃ z : Int32, z = x12 + 1 := ⟨_, rfl⟩
            refine lv_iinc (v := v29) (lv' := [(5, .int v29), (4, .int r28), (0, .ref h0), (1, .ref h1), (2, .int a1), (3, .int a2)]) hx hb dX2_lay_113 hl (k := 1) rfl (by rw [ev29]; rfl) (by decide) rfl (fun ls hl => ?_)
            replace h := mi_use ev29 h
            refine lv_goto (tgt := 50) hx hb dX2_lay_116 (by decide) ?_
            exact ih _ _ _ _ _ _ (hA _ (Option.some.inj h).symm) hkE _ _ ls hP hD hS (lv_sub hl [1, 0, 2, 3, 4, 5] rfl)
  obtain ⟨o30, ho30, h⟩ := Option.bind_eq_some_iff.mp h
  refine L50 N _ _ _ _ _ o30 ho30 ?_ _ _ ls hP hD hS (lv_sub hl [1, 0, 2, 3, 4, 5] rfl)
  intro y16 y17 y18 y19 y20 eo H locs ls hP hD hS hl
  subst eo
  try dsimp only at h
  refine lv_aload_n hx hb dX2_lay_119 rfl (lv_at hl 2 rfl) ?_
  refine lv_aload_n hx hb dX2_lay_120 rfl (lv_at hl 3 rfl) ?_
  refine lv_aload_n hx hb dX2_lay_121 rfl (lv_at hl 3 rfl) ?_
  refine lv_iload hx hb dX2_lay_122 (lv_at hl 0 rfl) ?_
  refine lv_aload_n hx hb dX2_lay_124 rfl (lv_at hl 2 rfl) ?_
  refine lv_aload_n hx hb dX2_lay_125 rfl (lv_at hl 2 rfl) ?_
  refine va_get (D := (dC, dI)) (ci := 2) (v := .int y18) (C := RX2) (T := TX2) (N := 6) hx hb hts (by decide +kernel) hown hK hP 0 rfl rfl 4 (by decide) (hts (.fieldLink RX2 25 "PointRings$Strides" "reach" "I") (by decide +kernel)) (fun _ h9 => h9) rfl dX2_lay_126 ?_
  obtain ⟨r31, hr31, h⟩ := Option.bind_eq_some_iff.mp h
  have hPc := hP.sub (ws' := [(h0, .inr (2, [.ref h0_stepAt, .ref h0_ends, .ref h1, .int a2, .int y18, .int t_back])), (h0_ends, .inl (k_t_ends, 128, .inl y20))]) [0, 2] rfl
  have hKc := hK.sub (tys' := [(k_t_ends, .int)]) [1] rfl
  refine vp_callSi (W.runV (As := [.int y18]) (rest := [.int y16, .ref h1, .ref h1, .ref h0]) ⟨hx, hb, hml, hown, hts⟩ (ctX2_endOf l N dC dI  h0 h0_ends h0_stepAt k_t_ends (some h1) a2 y18 t_back y20 y18 r31 hr31) (cwV 1 hts gX2_lay_X2_endOf rfl rfl rfl (by decide +kernel) ⟨Nat.le_of_ble_eq_true rfl, Nat.le_of_ble_eq_true rfl⟩) ⟨fun a U g mk q => by obtain ⟨q0, qP, qK, qN⟩ := q; exact ⟨q0, qP, va_K.moved (u := U) (U := U.calling g mk a) (Vm.Alike.refl U.vm) qK, nw_same (u := U) (U := U.calling g mk a) rfl qN⟩, va_recv hKc hPc (ci := 2) (q0 := 0) rfl rfl, fun U hU hW => ⟨rfl, by rw [hU]; exact hPc, va_K.moved hW.alike hKc, nw_warm hW hN⟩⟩ rfl rfl hl.1 rfl (lv_room (Nat.le_of_ble_eq_true rfl)) dX2_lay_129 ⟨Nat.le_of_ble_eq_true rfl, Nat.le_of_ble_eq_true rfl⟩) (fun q9 eq9 => ?_)
  subst q9
  obtain ⟨r32, hr32, h⟩ := Option.bind_eq_some_iff.mp h
  have hPc := hP.sub (ws' := [(h1, .inr (0, [.int p0_p, .int p0_a, .int p0_b, .int p0_from, .int p0_kernelPoint, .int p0_kernelOrder, .int p0_points, .int p0_inner, .int p0_outer, .int p0_makersFound, .int p0_first, .int p0_second]))]) [3] rfl
  have hKc := hK.sub (tys' := []) [] rfl
  refine vp_callSi (W.runV (As := [.int y16, .int r31]) (rest := [.ref h1, .ref h0]) ⟨hx, hb, hml, hown, hts⟩ (ctX0_sum l N dC dI  h1 p0_p p0_a p0_b p0_from p0_kernelPoint p0_kernelOrder p0_points p0_inner p0_outer p0_makersFound p0_first p0_second y16 r31 r32 hr32) (cwV 2 hts gX2_lay_X0_sum rfl rfl rfl (by decide +kernel) ⟨Nat.le_of_ble_eq_true rfl, Nat.le_of_ble_eq_true rfl⟩) ⟨fun a U g mk q => by obtain ⟨q0, qP, qK, qN⟩ := q; exact ⟨q0, qP, va_K.moved (u := U) (U := U.calling g mk a) (Vm.Alike.refl U.vm) qK, nw_same (u := U) (U := U.calling g mk a) rfl qN⟩, va_recv hKc hPc (ci := 0) (q0 := 0) rfl rfl, fun U hU hW => ⟨rfl, by rw [hU]; exact hPc, va_K.moved hW.alike hKc, nw_warm hW hN⟩⟩ rfl rfl hl.1 rfl (lv_room (Nat.le_of_ble_eq_true rfl)) dX2_lay_132 ⟨Nat.le_of_ble_eq_true rfl, Nat.le_of_ble_eq_true rfl⟩) (fun q9 eq9 => ?_)
  subst q9
  obtain ⟨r33, hr33, h⟩ := Option.bind_eq_some_iff.mp h
  have hPc := hP.sub (ws' := [(h1, .inr (0, [.int p0_p, .int p0_a, .int p0_b, .int p0_from, .int p0_kernelPoint, .int p0_kernelOrder, .int p0_points, .int p0_inner, .int p0_outer, .int p0_makersFound, .int p0_first, .int p0_second]))]) [3] rfl
  have hKc := hK.sub (tys' := []) [] rfl
  refine vp_callSi (W.runV (As := [.int r32]) (rest := [.ref h0]) ⟨hx, hb, hml, hown, hts⟩ (ctX0_opposite l N dC dI  h1 p0_p p0_a p0_b p0_from p0_kernelPoint p0_kernelOrder p0_points p0_inner p0_outer p0_makersFound p0_first p0_second r32 r33 hr33) (cwV 1 hts gX2_lay_X0_opposite rfl rfl rfl (by decide +kernel) ⟨Nat.le_of_ble_eq_true rfl, Nat.le_of_ble_eq_true rfl⟩) ⟨fun a U g mk q => by obtain ⟨q0, qP, qK, qN⟩ := q; exact ⟨q0, qP, va_K.moved (u := U) (U := U.calling g mk a) (Vm.Alike.refl U.vm) qK, nw_same (u := U) (U := U.calling g mk a) rfl qN⟩, va_recv hKc hPc (ci := 0) (q0 := 0) rfl rfl, fun U hU hW => ⟨rfl, by rw [hU]; exact hPc, va_K.moved hW.alike hKc, nw_warm hW hN⟩⟩ rfl rfl hl.1 rfl (lv_room (Nat.le_of_ble_eq_true rfl)) dX2_lay_135 ⟨Nat.le_of_ble_eq_true rfl, Nat.le_of_ble_eq_true rfl⟩) (fun q9 eq9 => ?_)
  subst q9
  refine va_put (D := (dC, dI)) (ci := 2) (v := .int r33) (ty := .int) (C := RX2) (T := TX2) (N := 6) hx hb hts (by decide +kernel) tyX2 tyX2_ok nmX2 hown hK hP hD hS 0 rfl rfl 5 (by decide) (hts (.fieldLink RX2 22 "PointRings$Strides" "back" "I") (by decide +kernel)) (fun _ h9 => h9) rfl (by decide +kernel) rfl rfl (Nat.le_of_ble_eq_true rfl) dX2_lay_138 (fun H locs hP hD hS => ?_)
  have hP : va_P (dC, dI) vwCl [(h0, .inr (2, [.ref h0_stepAt, .ref h0_ends, .ref h1, .int a2, .int y18, .int r33])), (h0_stepAt, .inl (k_t_stepAt, 10007, .inl y19)), (h0_ends, .inl (k_t_ends, 128, .inl y20)), (h1, .inr (0, [.int p0_p, .int p0_a, .int p0_b, .int p0_from, .int p0_kernelPoint, .int p0_kernelOrder, .int p0_points, .int p0_inner, .int p0_outer, .int p0_makersFound, .int p0_first, .int p0_second]))] H := hP
  have hD : va_D A [(h0, .inr (2, [.ref h0_stepAt, .ref h0_ends, .ref h1, .int a2, .int y18, .int r33])), (h0_stepAt, .inl (k_t_stepAt, 10007, .inl y19)), (h0_ends, .inl (k_t_ends, 128, .inl y20)), (h1, .inr (0, [.int p0_p, .int p0_a, .int p0_b, .int p0_from, .int p0_kernelPoint, .int p0_kernelOrder, .int p0_points, .int p0_inner, .int p0_outer, .int p0_makersFound, .int p0_first, .int p0_second]))] := hD
  have hv : (a2, y18, r33, y19, y20) = rr := Option.some.inj h
  have hP9 := hP.sub (ws' := [(h0, .inr (2, [.ref h0_stepAt, .ref h0_ends, .ref h1, .int a2, .int y18, .int r33])), (h0_stepAt, .inl (k_t_stepAt, 10007, .inl y19)), (h0_ends, .inl (k_t_ends, 128, .inl y20)), (h1, .inr (0, [.int p0_p, .int p0_a, .int p0_b, .int p0_from, .int p0_kernelPoint, .int p0_kernelOrder, .int p0_points, .int p0_inner, .int p0_outer, .int p0_makersFound, .int p0_first, .int p0_second]))]) [0, 1, 2, 3] rfl
  have hD9 := hD.sub (ws' := [(h0, .inr (2, [.ref h0_stepAt, .ref h0_ends, .ref h1, .int a2, .int y18, .int r33])), (h0_stepAt, .inl (k_t_stepAt, 10007, .inl y19)), (h0_ends, .inl (k_t_ends, 128, .inl y20)), (h1, .inr (0, [.int p0_p, .int p0_a, .int p0_b, .int p0_from, .int p0_kernelPoint, .int p0_kernelOrder, .int p0_points, .int p0_inner, .int p0_outer, .int p0_makersFound, .int p0_first, .int p0_second]))]) [0, 1, 2, 3] (by decide) rfl
  have hK9 := hK.sub (tys' := [(k_t_stepAt, .int), (k_t_ends, .int)]) [0, 1] rfl
  exact W.vret hx hb hr (fun t ht hW => ⟨⟨(a2, y18, r33, y19, y20), rfl, hv, by rw [ht]; exact hP9, va_K.moved hW.alike hK9, hD9⟩, hS.F ht⟩) hS.2.2 dX2_lay_141
def mX2_stepsTo_b31 (N : Nat) (t_order : Int32) (v2 : Int32) (t_stepAt : Nat → Int32) (hc_p : Int32) (hc_a : Int32) (t_back : Int32) (t_ends : Nat → Int32) (st : Int32 × Int32) : Option ((Int32 × Int32) ⊕ ((Int32 × Int32) ⊕ (Int32))) :=
  match st with
  | (x3, x4) => if (t_order + v2) ≤ x4 then some (.inr (.inl (x3, x4))) else if x3 = (-1) then (mJ9_floorMod_7cf53 N x4 t_order).bind (fun r17 => some (.inr (.inr r17))) else (mX2_noted N t_stepAt x3).bind (fun r9 => if r9 ≤ 0 then (mX0_sum N hc_p hc_a x3 t_back).bind (fun r11 => mi_let (x4 + v2) (fun v12 => some (.inl (r11, v12)))) else (mX2_endOf N t_ends r9).bind (fun r13 => if r13 = x3 then (mJ9_floorMod_7cf53 N (x4 + r9) t_order).bind (fun r16 => some (.inr (.inr r16))) else (mJ9_floorMod_7cf53 N (x4 - r9) t_order).bind (fun r15 => some (.inr (.inr r15)))))
def mX2_stepsTo (N : Nat) (t_order : Int32) (t_reach : Int32) (t_back : Int32) (t_stepAt : Nat → Int32) (t_ends : Nat → Int32) (hc_p : Int32) (hc_a : Int32) (a0 : Int32) : Option (Int32) := if 1 ≤ t_order then mi_let ((2 * t_reach) + 1) (fun v2 => (mi_run (mX2_stepsTo_b31 N t_order v2 t_stepAt hc_p hc_a t_back t_ends) N (a0, 0)).bind (fun o18 => match o18 with | .inl (y5, y6) => some (-1) | .inr r19 => some r19)) else some (-1)
abbrev rmX2_stepsTo : Room := { frames := 2, cells := 0, slots := 0, locals := 60 }
set_option maxHeartbeats 4000000 in
set_option maxRecDepth 100000 in
theorem ctX2_stepsTo (l : Launch) (N : Nat) (dC : Nat → ClassId) (dI : Nat → Nat → Nat) (h0 : Nat) (h0_stepAt : Nat) (h0_ends : Nat) (hc : Nat) (k_t_stepAt : ClassId) (k_t_ends : ClassId) (t_order : Int32) (t_reach : Int32) (t_back : Int32) (t_stepAt : Nat → Int32) (t_ends : Nat → Int32) (hc_p : Int32) (hc_a : Int32) (hc_b : Int32) (hc_from : Int32) (hc_kernelPoint : Int32) (hc_kernelOrder : Int32) (hc_points : Int32) (hc_inner : Int32) (hc_outer : Int32) (hc_makersFound : Int32) (hc_first : Int32) (hc_second : Int32) (a0 : Int32) (rr : Int32) (h : mX2_stepsTo N t_order t_reach t_back t_stepAt t_ends hc_p hc_a a0 = some rr) : Met l yX2_stepsTo wsX2_stepsTo rmX2_stepsTo (va_Pc [.ref h0, .int a0] (fun U => va_P (dC, dI) vwCl [(h0, .inr (2, [.ref h0_stepAt, .ref h0_ends, .ref hc, .int t_order, .int t_reach, .int t_back])), (h0_stepAt, .inl (k_t_stepAt, 10007, .inl t_stepAt)), (h0_ends, .inl (k_t_ends, 128, .inl t_ends)), (hc, .inr (0, [.int hc_p, .int hc_a, .int hc_b, .int hc_from, .int hc_kernelPoint, .int hc_kernelOrder, .int hc_points, .int hc_inner, .int hc_outer, .int hc_makersFound, .int hc_first, .int hc_second]))] U.heap ∧ va_K (dC, dI) vwCl [(k_t_stepAt, .int), (k_t_ends, .int)] U ∧ nw_all U)) (vp_Si (fun r => r = rr)) 0 0 (fun _ => False) := by
  refine Met.ofW (cc := cX2_stepsTo) (maxL := 6) (ret := (some .int)) (by decide) rfl ?_
  intro p e s m args below meth c s₁ B hml hv
  obtain ⟨rfl, hP, hK, hN⟩ := hv
  have hx := B.exec
  have hb := B.bytes
  have hr := B.returns
  have hts := atoms_spec (ws := wsX2_stepsTo) B.pre
  have hown : s.vm.findClass RX2 = some m.cls := findClass_of_methodNamed B.named
  have hlocks := B.notSynchronized
  have hl := lv_entry ([.ref h0, .int a0]) (n := 6) (Nat.le_of_ble_eq_true rfl)
  rw [lg_entry_eq]
  generalize (lg_sl ([.ref h0, .int a0]) ++ List.replicate (6 - (lg_sl ([.ref h0, .int a0])).length) Slot.unset).toArray = ls at hl ⊢
  have hl : lv_has ls 6 [(0, .ref h0), (1, .int a0)] := hl
  dsimp only [mX2_stepsTo] at h
  refine lv_aload_n hx hb dX2_stepsTo_0 rfl (lv_at hl 0 rfl) ?_
  refine va_get (D := (dC, dI)) (ci := 2) (v := .ref hc) (C := RX2) (T := TX2) (N := 6) hx hb hts (by decide +kernel) hown hK hP 0 rfl rfl 2 (by decide) (hts (.fieldLink RX2 36 "PointRings$Strides" "laidOn" "LPointRings$Curve;") (by decide +kernel)) (fun _ h9 => h9) rfl dX2_stepsTo_1 ?_
  refine lv_ifnull hx hb dX2_stepsTo_4 ?_
  refine lv_aload_n hx hb dX2_stepsTo_7 rfl (lv_at hl 0 rfl) ?_
  refine va_get (D := (dC, dI)) (ci := 2) (v := .int t_order) (C := RX2) (T := TX2) (N := 6) hx hb hts (by decide +kernel) hown hK hP 0 rfl rfl 3 (by decide) (hts (.fieldLink RX2 18 "PointRings$Strides" "order" "I") (by decide +kernel)) (fun _ h9 => h9) rfl dX2_stepsTo_8 ?_
  refine lv_iconst (v := 1) hx hb dX2_stepsTo_11 (by decide) ?_
  refine lv_icmp_ge (tgt := 17) hx hb dX2_stepsTo_12 (by decide) (fun c1 => ?_) (fun c1 => ?_)
  · replace h := (if_pos c1).symm.trans h
    refine lv_iconst (v := 2) hx hb dX2_stepsTo_17 (by decide) ?_
    refine lv_aload_n hx hb dX2_stepsTo_18 rfl (lv_at hl 0 rfl) ?_
    refine va_get (D := (dC, dI)) (ci := 2) (v := .int t_reach) (C := RX2) (T := TX2) (N := 6) hx hb hts (by decide +kernel) hown hK hP 0 rfl rfl 4 (by decide) (hts (.fieldLink RX2 25 "PointRings$Strides" "reach" "I") (by decide +kernel)) (fun _ h9 => h9) rfl dX2_stepsTo_19 ?_
    refine lv_imul hx hb dX2_stepsTo_22 ?_
    refine lv_iconst (v := 1) hx hb dX2_stepsTo_23 (by decide) ?_
    refine lv_iadd hx hb dX2_stepsTo_24 ?_
    refine lv_topi (fun v2 ev2 => ?_)
    replace h := mi_use ev2 h
    refine lv_istore_n (lv' := [(2, .int v2), (0, .ref h0), (1, .int a0)]) hx hb dX2_stepsTo_25 rfl hl (by decide) rfl (fun ls hl => ?_)
    refine lv_iload_n hx hb dX2_stepsTo_26 rfl (lv_at hl 2 rfl) ?_
    refine lv_istore_n (lv' := [(3, .int a0), (2, .int v2), (0, .ref h0), (1, .int a0)]) hx hb dX2_stepsTo_27 rfl hl (by decide) rfl (fun ls hl => ?_)
    refine lv_iconst (v := 0) hx hb dX2_stepsTo_28 (by decide) ?_
    refine lv_istore (lv' := [(4, .int 0), (3, .int a0), (2, .int v2), (0, .ref h0), (1, .int a0)]) hx hb dX2_stepsTo_29 hl (by decide) rfl (fun ls hl => ?_)
    have L31 : ∀ (n : Nat) (x3 : Int32) (x4 : Int32) (o : (Int32 × Int32) ⊕ (Int32)), mi_run (mX2_stepsTo_b31 N t_order v2 t_stepAt hc_p hc_a t_back t_ends) n (x3, x4) = some o → (∀ (y5 : Int32) (y6 : Int32), o = .inl (y5, y6) → ∀ ls, lv_has ls 6 [(3, .int y5), (4, .int y6), (2, .int v2), (0, .ref h0), (1, .int a0)] → W p l e (headSpec wsX2_stepsTo rmX2_stepsTo).room s m (([.ref h0, .int a0] : List Value).toArray) below meth c s.heap [] 0 0 (MQ below (vp_Si (fun r => r = rr)) (([.ref h0, .int a0] : List Value).toArray) s 0 0 (fun _ => False)) (F0 m 122 ls [])) → (∀ v : Int32, o = .inr v → v = rr) → ∀ ls, lv_has ls 6 [(3, .int x3), (4, .int x4), (2, .int v2), (0, .ref h0), (1, .int a0)] → W p l e (headSpec wsX2_stepsTo rmX2_stepsTo).room s m (([.ref h0, .int a0] : List Value).toArray) below meth c s.heap [] 0 0 (MQ below (vp_Si (fun r => r = rr)) (([.ref h0, .int a0] : List Value).toArray) s 0 0 (fun _ => False)) (F0 m 31 ls []) := by
      intro n
      induction n with
      | zero => intro x3 x4 o h; exact absurd h (mi_run_0 _ _ _)
      | succ n ih =>
        intro x3 x4 o h hkE hkR ls hl
        obtain ⟨w, h, hA, hB⟩ := mi_run_s h
        dsimp only [mX2_stepsTo_b31] at h
        refine lv_iload hx hb dX2_stepsTo_31 (lv_at hl 1 rfl) ?_
        refine lv_aload_n hx hb dX2_stepsTo_33 rfl (lv_at hl 3 rfl) ?_
        refine va_get (D := (dC, dI)) (ci := 2) (v := .int t_order) (C := RX2) (T := TX2) (N := 6) hx hb hts (by decide +kernel) hown hK hP 0 rfl rfl 3 (by decide) (hts (.fieldLink RX2 18 "PointRings$Strides" "order" "I") (by decide +kernel)) (fun _ h9 => h9) rfl dX2_stepsTo_34 ?_
        refine lv_iload_n hx hb dX2_stepsTo_37 rfl (lv_at hl 2 rfl) ?_
        refine lv_iadd hx hb dX2_stepsTo_38 ?_
        refine lv_icmp_ge (tgt := 122) hx hb dX2_stepsTo_39 (by decide) (fun c7 => ?_) (fun c7 => ?_)
        · replace h := (if_pos c7).symm.trans h
          exact hkE _ _ (hB _ (Option.some.inj h).symm) ls (lv_sub hl [0, 1, 2, 3, 4] rfl)
        · replace h := (if_neg c7).symm.trans h
          refine lv_iload_n hx hb dX2_stepsTo_42 rfl (lv_at hl 0 rfl) ?_
          refine lv_iconst (v := (-1)) hx hb dX2_stepsTo_43 (by decide) ?_
          refine lv_icmp_ne (tgt := 57) hx hb dX2_stepsTo_44 (by decide) (fun c8 => ?_) (fun c8 => ?_)
          · replace h := (if_neg c8).symm.trans h
            refine lv_aload_n hx hb dX2_stepsTo_57 rfl (lv_at hl 3 rfl) ?_
            refine lv_iload_n hx hb dX2_stepsTo_58 rfl (lv_at hl 0 rfl) ?_
            obtain ⟨r9, hr9, h⟩ := Option.bind_eq_some_iff.mp h
            have hPc := hP.sub (ws' := [(h0, .inr (2, [.ref h0_stepAt, .ref h0_ends, .ref hc, .int t_order, .int t_reach, .int t_back])), (h0_stepAt, .inl (k_t_stepAt, 10007, .inl t_stepAt))]) [0, 1] rfl
            have hKc := hK.sub (tys' := [(k_t_stepAt, .int)]) [0] rfl
            refine vp_callSi (W.runV (As := [.int x3]) (rest := []) ⟨hx, hb, hml, hown, hts⟩ (ctX2_noted l N dC dI  h0 h0_stepAt h0_ends k_t_stepAt (some hc) t_order t_reach t_back t_stepAt x3 r9 hr9) (cwV 1 hts gX2_stepsTo_X2_noted rfl rfl rfl (by decide +kernel) ⟨Nat.le_of_ble_eq_true rfl, Nat.le_of_ble_eq_true rfl⟩) ⟨fun a U g mk q => by obtain ⟨q0, qP, qK, qN⟩ := q; exact ⟨q0, qP, va_K.moved (u := U) (U := U.calling g mk a) (Vm.Alike.refl U.vm) qK, nw_same (u := U) (U := U.calling g mk a) rfl qN⟩, va_recv hKc hPc (ci := 2) (q0 := 0) rfl rfl, fun U hU hW => ⟨rfl, by rw [hU]; exact hPc, va_K.moved hW.alike hKc, nw_warm hW hN⟩⟩ rfl rfl hl.1 rfl (lv_room (Nat.le_of_ble_eq_true rfl)) dX2_stepsTo_59 ⟨Nat.le_of_ble_eq_true rfl, Nat.le_of_ble_eq_true rfl⟩) (fun q9 eq9 => ?_)
            subst q9
            refine lv_istore (lv' := [(5, .int r9), (3, .int x3), (4, .int x4), (2, .int v2), (0, .ref h0), (1, .int a0)]) hx hb dX2_stepsTo_62 hl (by decide) rfl (fun ls hl => ?_)
            refine lv_iload hx hb dX2_stepsTo_64 (lv_at hl 0 rfl) ?_
            refine lv_if_le (tgt := 100) hx hb dX2_stepsTo_66 (by decide) (fun c10 => ?_) (fun c10 => ?_)
            · replace h := (if_pos c10).symm.trans h
              refine lv_aload_n hx hb dX2_stepsTo_100 rfl (lv_at hl 4 rfl) ?_
              refine va_get (D := (dC, dI)) (ci := 2) (v := .ref hc) (C := RX2) (T := TX2) (N := 6) hx hb hts (by decide +kernel) hown hK hP 0 rfl rfl 2 (by decide) (hts (.fieldLink RX2 36 "PointRings$Strides" "laidOn" "LPointRings$Curve;") (by decide +kernel)) (fun _ h9 => h9) rfl dX2_stepsTo_101 ?_
              refine lv_iload_n hx hb dX2_stepsTo_104 rfl (lv_at hl 1 rfl) ?_
              refine lv_aload_n hx hb dX2_stepsTo_105 rfl (lv_at hl 4 rfl) ?_
              refine va_get (D := (dC, dI)) (ci := 2) (v := .int t_back) (C := RX2) (T := TX2) (N := 6) hx hb hts (by decide +kernel) hown hK hP 0 rfl rfl 5 (by decide) (hts (.fieldLink RX2 22 "PointRings$Strides" "back" "I") (by decide +kernel)) (fun _ h9 => h9) rfl dX2_stepsTo_106 ?_
              obtain ⟨r11, hr11, h⟩ := Option.bind_eq_some_iff.mp h
              have hPc := hP.sub (ws' := [(hc, .inr (0, [.int hc_p, .int hc_a, .int hc_b, .int hc_from, .int hc_kernelPoint, .int hc_kernelOrder, .int hc_points, .int hc_inner, .int hc_outer, .int hc_makersFound, .int hc_first, .int hc_second]))]) [3] rfl
              have hKc := hK.sub (tys' := []) [] rfl
              refine vp_callSi (W.runV (As := [.int x3, .int t_back]) (rest := []) ⟨hx, hb, hml, hown, hts⟩ (ctX0_sum l N dC dI  hc hc_p hc_a hc_b hc_from hc_kernelPoint hc_kernelOrder hc_points hc_inner hc_outer hc_makersFound hc_first hc_second x3 t_back r11 hr11) (cwV 2 hts gX2_stepsTo_X0_sum rfl rfl rfl (by decide +kernel) ⟨Nat.le_of_ble_eq_true rfl, Nat.le_of_ble_eq_true rfl⟩) ⟨fun a U g mk q => by obtain ⟨q0, qP, qK, qN⟩ := q; exact ⟨q0, qP, va_K.moved (u := U) (U := U.calling g mk a) (Vm.Alike.refl U.vm) qK, nw_same (u := U) (U := U.calling g mk a) rfl qN⟩, va_recv hKc hPc (ci := 0) (q0 := 0) rfl rfl, fun U hU hW => ⟨rfl, by rw [hU]; exact hPc, va_K.moved hW.alike hKc, nw_warm hW hN⟩⟩ rfl rfl hl.1 rfl (lv_room (Nat.le_of_ble_eq_true rfl)) dX2_stepsTo_109 ⟨Nat.le_of_ble_eq_true rfl, Nat.le_of_ble_eq_true rfl⟩) (fun q9 eq9 => ?_)
              subst q9
              refine lv_istore_n (lv' := [(3, .int r11), (5, .int r9), (4, .int x4), (2, .int v2), (0, .ref h0), (1, .int a0)]) hx hb dX2_stepsTo_112 rfl hl (by decide) rfl (fun ls hl => ?_)
              refine lv_iload hx hb dX2_stepsTo_113 (lv_at hl 2 rfl) ?_
              refine lv_iload_n hx hb dX2_stepsTo_115 rfl (lv_at hl 3 rfl) ?_
              refine lv_iadd hx hb dX2_stepsTo_116 ?_
              refine lv_topi (fun v12 ev12 => ?_)
              replace h := mi_use ev12 h
              refine lv_istore (lv' := [(4, .int v12), (3, .int r11), (5, .int r9), (2, .int v2), (0, .ref h0), (1, .int a0)]) hx hb dX2_stepsTo_117 hl (by decide) rfl (fun ls hl => ?_)
              refine lv_goto (tgt := 31) hx hb dX2_stepsTo_119 (by decide) ?_
              exact ih _ _ _ (hA _ (Option.some.inj h).symm) hkE hkR ls (lv_sub hl [1, 0, 3, 4, 5] rfl)
            · replace h := (if_neg c10).symm.trans h
              refine lv_aload_n hx hb dX2_stepsTo_69 rfl (lv_at hl 4 rfl) ?_
              refine lv_iload hx hb dX2_stepsTo_70 (lv_at hl 0 rfl) ?_
              obtain ⟨r13, hr13, h⟩ := Option.bind_eq_some_iff.mp h
              have hPc := hP.sub (ws' := [(h0, .inr (2, [.ref h0_stepAt, .ref h0_ends, .ref hc, .int t_order, .int t_reach, .int t_back])), (h0_ends, .inl (k_t_ends, 128, .inl t_ends))]) [0, 2] rfl
              have hKc := hK.sub (tys' := [(k_t_ends, .int)]) [1] rfl
              refine vp_callSi (W.runV (As := [.int r9]) (rest := []) ⟨hx, hb, hml, hown, hts⟩ (ctX2_endOf l N dC dI  h0 h0_ends h0_stepAt k_t_ends (some hc) t_order t_reach t_back t_ends r9 r13 hr13) (cwV 1 hts gX2_stepsTo_X2_endOf rfl rfl rfl (by decide +kernel) ⟨Nat.le_of_ble_eq_true rfl, Nat.le_of_ble_eq_true rfl⟩) ⟨fun a U g mk q => by obtain ⟨q0, qP, qK, qN⟩ := q; exact ⟨q0, qP, va_K.moved (u := U) (U := U.calling g mk a) (Vm.Alike.refl U.vm) qK, nw_same (u := U) (U := U.calling g mk a) rfl qN⟩, va_recv hKc hPc (ci := 2) (q0 := 0) rfl rfl, fun U hU hW => ⟨rfl, by rw [hU]; exact hPc, va_K.moved hW.alike hKc, nw_warm hW hN⟩⟩ rfl rfl hl.1 rfl (lv_room (Nat.le_of_ble_eq_true rfl)) dX2_stepsTo_72 ⟨Nat.le_of_ble_eq_true rfl, Nat.le_of_ble_eq_true rfl⟩) (fun q9 eq9 => ?_)
              subst q9
              refine lv_iload_n hx hb dX2_stepsTo_75 rfl (lv_at hl 1 rfl) ?_
              refine lv_icmp_ne (tgt := 87) hx hb dX2_stepsTo_76 (by decide) (fun c14 => ?_) (fun c14 => ?_)
              · replace h := (if_neg c14).symm.trans h
                refine lv_iload hx hb dX2_stepsTo_87 (lv_at hl 2 rfl) ?_
                refine lv_iload hx hb dX2_stepsTo_89 (lv_at hl 0 rfl) ?_
                refine lv_isub hx hb dX2_stepsTo_91 ?_
                refine lv_aload_n hx hb dX2_stepsTo_92 rfl (lv_at hl 4 rfl) ?_
                refine va_get (D := (dC, dI)) (ci := 2) (v := .int t_order) (C := RX2) (T := TX2) (N := 6) hx hb hts (by decide +kernel) hown hK hP 0 rfl rfl 3 (by decide) (hts (.fieldLink RX2 18 "PointRings$Strides" "order" "I") (by decide +kernel)) (fun _ h9 => h9) rfl dX2_stepsTo_93 ?_
                obtain ⟨r15, hr15, h⟩ := Option.bind_eq_some_iff.mp h
                refine vp_callSi (W.runS (As := [.int (x4 - r9), .int t_order]) (rest := []) ⟨hx, hb, hml, hown, hts⟩ (ctJ9_floorMod_7cf53 l N  (x4 - r9) t_order r15 hr15) (va_cwS 2 hts gX2_stepsTo_J9_floorMod_7cf53 rfl rfl rfl (by decide +kernel) ⟨Nat.le_of_ble_eq_true rfl, Nat.le_of_ble_eq_true rfl⟩) preEq rfl rfl hl.1 rfl (lv_room (Nat.le_of_ble_eq_true rfl)) dX2_stepsTo_96 ⟨Nat.le_of_ble_eq_true rfl, Nat.le_of_ble_eq_true rfl⟩) (fun q9 eq9 => ?_)
                subst q9
                have hv : r15 = rr := hkR _ (hB _ (Option.some.inj h).symm)
                exact W.iret (v := r15) hx hb hr (fun t ht hW => ⟨_, rfl, hv, ht⟩) (fun q hq => absurd hq List.not_mem_nil) dX2_stepsTo_99
              · replace h := (if_pos c14).symm.trans h
                refine lv_iload hx hb dX2_stepsTo_79 (lv_at hl 2 rfl) ?_
                refine lv_iload hx hb dX2_stepsTo_81 (lv_at hl 0 rfl) ?_
                refine lv_iadd hx hb dX2_stepsTo_83 ?_
                refine lv_goto (tgt := 92) hx hb dX2_stepsTo_84 (by decide) ?_
                refine lv_aload_n hx hb dX2_stepsTo_92 rfl (lv_at hl 4 rfl) ?_
                refine va_get (D := (dC, dI)) (ci := 2) (v := .int t_order) (C := RX2) (T := TX2) (N := 6) hx hb hts (by decide +kernel) hown hK hP 0 rfl rfl 3 (by decide) (hts (.fieldLink RX2 18 "PointRings$Strides" "order" "I") (by decide +kernel)) (fun _ h9 => h9) rfl dX2_stepsTo_93 ?_
                obtain ⟨r16, hr16, h⟩ := Option.bind_eq_some_iff.mp h
                refine vp_callSi (W.runS (As := [.int (x4 + r9), .int t_order]) (rest := []) ⟨hx, hb, hml, hown, hts⟩ (ctJ9_floorMod_7cf53 l N  (x4 + r9) t_order r16 hr16) (va_cwS 2 hts gX2_stepsTo_J9_floorMod_7cf53 rfl rfl rfl (by decide +kernel) ⟨Nat.le_of_ble_eq_true rfl, Nat.le_of_ble_eq_true rfl⟩) preEq rfl rfl hl.1 rfl (lv_room (Nat.le_of_ble_eq_true rfl)) dX2_stepsTo_96 ⟨Nat.le_of_ble_eq_true rfl, Nat.le_of_ble_eq_true rfl⟩) (fun q9 eq9 => ?_)
                subst q9
                have hv : r16 = rr := hkR _ (hB _ (Option.some.inj h).symm)
                exact W.iret (v := r16) hx hb hr (fun t ht hW => ⟨_, rfl, hv, ht⟩) (fun q hq => absurd hq List.not_mem_nil) dX2_stepsTo_99
          · replace h := (if_pos c8).symm.trans h
            refine lv_iload hx hb dX2_stepsTo_47 (lv_at hl 1 rfl) ?_
            refine lv_aload_n hx hb dX2_stepsTo_49 rfl (lv_at hl 3 rfl) ?_
            refine va_get (D := (dC, dI)) (ci := 2) (v := .int t_order) (C := RX2) (T := TX2) (N := 6) hx hb hts (by decide +kernel) hown hK hP 0 rfl rfl 3 (by decide) (hts (.fieldLink RX2 18 "PointRings$Strides" "order" "I") (by decide +kernel)) (fun _ h9 => h9) rfl dX2_stepsTo_50 ?_
            obtain ⟨r17, hr17, h⟩ := Option.bind_eq_some_iff.mp h
            refine vp_callSi (W.runS (As := [.int x4, .int t_order]) (rest := []) ⟨hx, hb, hml, hown, hts⟩ (ctJ9_floorMod_7cf53 l N  x4 t_order r17 hr17) (va_cwS 2 hts gX2_stepsTo_J9_floorMod_7cf53 rfl rfl rfl (by decide +kernel) ⟨Nat.le_of_ble_eq_true rfl, Nat.le_of_ble_eq_true rfl⟩) preEq rfl rfl hl.1 rfl (lv_room (Nat.le_of_ble_eq_true rfl)) dX2_stepsTo_53 ⟨Nat.le_of_ble_eq_true rfl, Nat.le_of_ble_eq_true rfl⟩) (fun q9 eq9 => ?_)
            subst q9
            have hv : r17 = rr := hkR _ (hB _ (Option.some.inj h).symm)
            exact W.iret (v := r17) hx hb hr (fun t ht hW => ⟨_, rfl, hv, ht⟩) (fun q hq => absurd hq List.not_mem_nil) dX2_stepsTo_56
    obtain ⟨o18, ho18, h⟩ := Option.bind_eq_some_iff.mp h
    refine L31 N _ _ o18 ho18 ?_ ?_ ls (lv_sub hl [1, 0, 2, 3, 4] rfl)
    · intro y5 y6 eo ls hl
      subst eo
      try dsimp only at h
      refine lv_iconst (v := (-1)) hx hb dX2_stepsTo_122 (by decide) ?_
      have hv : (-1) = rr := Option.some.inj h
      exact W.iret (v := (-1)) hx hb hr (fun t ht hW => ⟨_, rfl, hv, ht⟩) (fun q hq => absurd hq List.not_mem_nil) dX2_stepsTo_123
    · intro r19 eo
      subst eo
      try dsimp only at h
      exact Option.some.inj h
  · replace h := (if_neg c1).symm.trans h
    refine lv_iconst (v := (-1)) hx hb dX2_stepsTo_15 (by decide) ?_
    have hv : (-1) = rr := Option.some.inj h
    exact W.iret (v := (-1)) hx hb hr (fun t ht hW => ⟨_, rfl, hv, ht⟩) (fun q hq => absurd hq List.not_mem_nil) dX2_stepsTo_16
