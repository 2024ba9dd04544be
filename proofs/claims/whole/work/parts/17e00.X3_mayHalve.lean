def mX3_mayHalve (N : Nat) (p0_p : Int32) (p0_a : Int32) (p0_b : Int32) (a1 : Int32) (a2 : Int32) : Option (Int32) := (mX0_cubic N p0_p p0_a p0_b a1).bind (fun r1 => if a2 = (-1) then if r1 = 0 then some 1 else some 0 else if p0_p = 0 then none else mi_let (mi_rem ((a1 * a1) - p0_a) p0_p) (fun v4 => (mX5_xOf N a2).bind (fun r5 => if p0_p = 0 then none else mi_let (mi_rem (((v4 * v4) - ((8 * p0_b) * a1)) - ((4 * r5) * r1)) p0_p) (fun v7 => if v7 = 0 then some 1 else some 0))))
abbrev rmX3_mayHalve : Room := { frames := 1, cells := 0, slots := 0, locals := 21 }
set_option maxHeartbeats 4000000 in
set_option maxRecDepth 100000 in
theorem ctX3_mayHalve (l : Launch) (N : Nat) (dC : Nat → ClassId) (dI : Nat → Nat → Nat) (h1 : Nat) (p0_p : Int32) (p0_a : Int32) (p0_b : Int32) (p0_from : Int32) (p0_kernelPoint : Int32) (p0_kernelOrder : Int32) (p0_points : Int32) (p0_inner : Int32) (p0_outer : Int32) (p0_makersFound : Int32) (p0_first : Int32) (p0_second : Int32) (a1 : Int32) (a2 : Int32) (rr : Int32) (h : mX3_mayHalve N p0_p p0_a p0_b a1 a2 = some rr) : Met l yX3_mayHalve wsX3_mayHalve rmX3_mayHalve (va_Pc [.ref h1, .int a1, .int a2] (fun U => va_P (dC, dI) vwCl [(h1, .inr (0, [.int p0_p, .int p0_a, .int p0_b, .int p0_from, .int p0_kernelPoint, .int p0_kernelOrder, .int p0_points, .int p0_inner, .int p0_outer, .int p0_makersFound, .int p0_first, .int p0_second]))] U.heap ∧ va_K (dC, dI) vwCl [] U ∧ nw_all U)) (vp_Si (fun r => r = rr)) 0 0 (fun _ => False) := by
  refine Met.ofW (cc := cX3_mayHalve) (maxL := 5) (ret := (some .boolean)) (by decide) rfl ?_
  intro p e s m args below meth c s₁ B hml hv
  obtain ⟨rfl, hP, hK, hN⟩ := hv
  have hx := B.exec
  have hb := B.bytes
  have hr := B.returns
  have hts := atoms_spec (ws := wsX3_mayHalve) B.pre
  have hown : s.vm.findClass RX3 = some m.cls := findClass_of_methodNamed B.named
  have hlocks := B.notSynchronized
  have hl := lv_entry ([.ref h1, .int a1, .int a2]) (n := 5) (Nat.le_of_ble_eq_true rfl)
  rw [lg_entry_eq]
  generalize (lg_sl ([.ref h1, .int a1, .int a2]) ++ List.replicate (5 - (lg_sl ([.ref h1, .int a1, .int a2])).length) Slot.unset).toArray = ls at hl ⊢
  have hl : lv_has ls 5 [(0, .ref h1), (1, .int a1), (2, .int a2)] := hl
  dsimp only [mX3_mayHalve] at h
  refine lv_aload_n hx hb dX3_mayHalve_0 rfl (lv_at hl 0 rfl) ?_
  refine lv_iload_n hx hb dX3_mayHalve_1 rfl (lv_at hl 1 rfl) ?_
  obtain ⟨r1, hr1, h⟩ := Option.bind_eq_some_iff.mp h
  have hPc := hP.sub (ws' := [(h1, .inr (0, [.int p0_p, .int p0_a, .int p0_b, .int p0_from, .int p0_kernelPoint, .int p0_kernelOrder, .int p0_points, .int p0_inner, .int p0_outer, .int p0_makersFound, .int p0_first, .int p0_second]))]) [0] rfl
  have hKc := hK.sub (tys' := []) [] rfl
  refine vp_callSi (W.runV (As := [.int a1]) (rest := []) ⟨hx, hb, hml, hown, hts⟩ (ctX0_cubic l N dC dI  h1 p0_p p0_a p0_b p0_from p0_kernelPoint p0_kernelOrder p0_points p0_inner p0_outer p0_makersFound p0_first p0_second a1 r1 hr1) (cwV 1 hts gX3_mayHalve_X0_cubic rfl rfl rfl (by decide +kernel) ⟨Nat.le_of_ble_eq_true rfl, Nat.le_of_ble_eq_true rfl⟩) ⟨fun a U g mk q => by obtain ⟨q0, qP, qK, qN⟩ := q; exact ⟨q0, qP, va_K.moved (u := U) (U := U.calling g mk a) (Vm.Alike.refl U.vm) qK, nw_same (u := U) (U := U.calling g mk a) rfl qN⟩, va_recv hKc hPc (ci := 0) (q0 := 0) rfl rfl, fun U hU hW => ⟨rfl, by rw [hU]; exact hPc, va_K.moved hW.alike hKc, nw_warm hW hN⟩⟩ rfl rfl hl.1 rfl (lv_room (Nat.le_of_ble_eq_true rfl)) dX3_mayHalve_2 ⟨Nat.le_of_ble_eq_true rfl, Nat.le_of_ble_eq_true rfl⟩) (fun q9 eq9 => ?_)
  subst q9
  refine lv_istore_n (lv' := [(3, .int r1), (0, .ref h1), (1, .int a1), (2, .int a2)]) hx hb dX3_mayHalve_5 rfl hl (by decide) rfl (fun ls hl => ?_)
  refine lv_iload_n hx hb dX3_mayHalve_6 rfl (lv_at hl 3 rfl) ?_
  refine lv_iconst (v := (-1)) hx hb dX3_mayHalve_7 (by decide) ?_
  refine lv_icmp_ne (tgt := 21) hx hb dX3_mayHalve_8 (by decide) (fun c2 => ?_) (fun c2 => ?_)
  · replace h := (if_neg c2).symm.trans h
    refine lv_iload_n hx hb dX3_mayHalve_21 rfl (lv_at hl 2 rfl) ?_
    refine lv_iload_n hx hb dX3_mayHalve_22 rfl (lv_at hl 2 rfl) ?_
    refine lv_imul hx hb dX3_mayHalve_23 ?_
    refine lv_aload_n hx hb dX3_mayHalve_24 rfl (lv_at hl 1 rfl) ?_
    refine va_get (D := (dC, dI)) (ci := 0) (v := .int p0_a) (C := RX0) (T := TX0) (N := 12) hx hb hts (by decide +kernel) hown hK hP 0 rfl rfl 1 (by decide) (hts (.fieldLink RX3 42 "PointRings$Curve" "a" "I") (by decide +kernel)) (fun _ h9 => h9) rfl dX3_mayHalve_25 ?_
    refine lv_isub hx hb dX3_mayHalve_28 ?_
    refine lv_aload_n hx hb dX3_mayHalve_29 rfl (lv_at hl 1 rfl) ?_
    refine va_get (D := (dC, dI)) (ci := 0) (v := .int p0_p) (C := RX0) (T := TX0) (N := 12) hx hb hts (by decide +kernel) hown hK hP 0 rfl rfl 0 (by decide) (hts (.fieldLink RX3 39 "PointRings$Curve" "p" "I") (by decide +kernel)) (fun _ h9 => h9) rfl dX3_mayHalve_30 ?_
    have hn3 : ¬ p0_p = 0 := fun hz => absurd ((if_pos hz).symm.trans h) (fun hh => nomatch hh)
    replace h := (if_neg hn3).symm.trans h
    refine lv_irem hx hb dX3_mayHalve_33 hn3 ?_
    refine lv_topi (fun v4 ev4 => ?_)
    replace h := mi_use ev4 h
    refine lv_istore (lv' := [(4, .int v4), (3, .int r1), (0, .ref h1), (1, .int a1), (2, .int a2)]) hx hb dX3_mayHalve_34 hl (by decide) rfl (fun ls hl => ?_)
    refine lv_iload hx hb dX3_mayHalve_36 (lv_at hl 0 rfl) ?_
    refine lv_iload hx hb dX3_mayHalve_38 (lv_at hl 0 rfl) ?_
    refine lv_imul hx hb dX3_mayHalve_40 ?_
    refine lv_bipush (v := 8) hx hb dX3_mayHalve_41 (by decide) ?_
    refine lv_aload_n hx hb dX3_mayHalve_43 rfl (lv_at hl 2 rfl) ?_
    refine va_get (D := (dC, dI)) (ci := 0) (v := .int p0_b) (C := RX0) (T := TX0) (N := 12) hx hb hts (by decide +kernel) hown hK hP 0 rfl rfl 2 (by decide) (hts (.fieldLink RX3 45 "PointRings$Curve" "b" "I") (by decide +kernel)) (fun _ h9 => h9) rfl dX3_mayHalve_44 ?_
    refine lv_imul hx hb dX3_mayHalve_47 ?_
    refine lv_iload_n hx hb dX3_mayHalve_48 rfl (lv_at hl 3 rfl) ?_
    refine lv_imul hx hb dX3_mayHalve_49 ?_
    refine lv_isub hx hb dX3_mayHalve_50 ?_
    refine lv_iconst (v := 4) hx hb dX3_mayHalve_51 (by decide) ?_
    refine lv_iload_n hx hb dX3_mayHalve_52 rfl (lv_at hl 4 rfl) ?_
    obtain ⟨r5, hr5, h⟩ := Option.bind_eq_some_iff.mp h
    refine vp_callSi (mi_cr (va_runSN (As := [.int a2]) (rest := [.int 4, .int ((v4 * v4) - ((8 * p0_b) * a1))]) ⟨hx, hb, hml, hown, hts⟩ (ctX5_xOf l N  a2 r5 hr5) ⟨va_cnB 1 hts gX3_mayHalve_X5_xOf_n83 rfl rfl rfl (nw_X3_83 hN) (hts (.initialized RX5) (by decide +kernel)) (by decide +kernel) ⟨Nat.le_of_ble_eq_true rfl, Nat.le_of_ble_eq_true rfl⟩, hts (.static yX5_xOf) (by decide +kernel), trivial⟩ preEq rfl rfl hl.1 rfl (lv_room (Nat.le_of_ble_eq_true rfl)) dX3_mayHalve_53 ⟨Nat.le_of_ble_eq_true rfl, Nat.le_of_ble_eq_true rfl⟩)) (fun q9 eq9 => ?_)
    subst q9
    refine lv_imul hx hb dX3_mayHalve_56 ?_
    refine lv_iload_n hx hb dX3_mayHalve_57 rfl (lv_at hl 1 rfl) ?_
    refine lv_imul hx hb dX3_mayHalve_58 ?_
    refine lv_isub hx hb dX3_mayHalve_59 ?_
    refine lv_aload_n hx hb dX3_mayHalve_60 rfl (lv_at hl 2 rfl) ?_
    refine va_get (D := (dC, dI)) (ci := 0) (v := .int p0_p) (C := RX0) (T := TX0) (N := 12) hx hb hts (by decide +kernel) hown hK hP 0 rfl rfl 0 (by decide) (hts (.fieldLink RX3 39 "PointRings$Curve" "p" "I") (by decide +kernel)) (fun _ h9 => h9) rfl dX3_mayHalve_61 ?_
    have hn6 : ¬ p0_p = 0 := fun hz => absurd ((if_pos hz).symm.trans h) (fun hh => nomatch hh)
    replace h := (if_neg hn6).symm.trans h
    refine lv_irem hx hb dX3_mayHalve_64 hn6 ?_
    refine lv_topi (fun v7 ev7 => ?_)
    replace h := mi_use ev7 h
    refine lv_if_ne (tgt := 72) hx hb dX3_mayHalve_65 (by decide) (fun c8 => ?_) (fun c8 => ?_)
    · replace h := (if_neg c8).symm.trans h
      refine lv_iconst (v := 0) hx hb dX3_mayHalve_72 (by decide) ?_
      have hv : 0 = rr := Option.some.inj h
      exact W.zret (v := 0) hx hb hr (by decide) (fun t ht hW => ⟨_, rfl, hv, ht⟩) (fun q hq => absurd hq List.not_mem_nil) dX3_mayHalve_73
    · replace h := (if_pos c8).symm.trans h
      refine lv_iconst (v := 1) hx hb dX3_mayHalve_68 (by decide) ?_
      refine lv_goto (tgt := 73) hx hb dX3_mayHalve_69 (by decide) ?_
      have hv : 1 = rr := Option.some.inj h
      exact W.zret (v := 1) hx hb hr (by decide) (fun t ht hW => ⟨_, rfl, hv, ht⟩) (fun q hq => absurd hq List.not_mem_nil) dX3_mayHalve_73
  · replace h := (if_pos c2).symm.trans h
    refine lv_iload_n hx hb dX3_mayHalve_11 rfl (lv_at hl 0 rfl) ?_
    refine lv_if_ne (tgt := 19) hx hb dX3_mayHalve_12 (by decide) (fun c9 => ?_) (fun c9 => ?_)
    · replace h := (if_neg c9).symm.trans h
      refine lv_iconst (v := 0) hx hb dX3_mayHalve_19 (by decide) ?_
      have hv : 0 = rr := Option.some.inj h
      exact W.zret (v := 0) hx hb hr (by decide) (fun t ht hW => ⟨_, rfl, hv, ht⟩) (fun q hq => absurd hq List.not_mem_nil) dX3_mayHalve_20
    · replace h := (if_pos c9).symm.trans h
      refine lv_iconst (v := 1) hx hb dX3_mayHalve_15 (by decide) ?_
      refine lv_goto (tgt := 20) hx hb dX3_mayHalve_16 (by decide) ?_
      have hv : 1 = rr := Option.some.inj h
      exact W.zret (v := 1) hx hb hr (by decide) (fun t ht hW => ⟨_, rfl, hv, ht⟩) (fun q hq => absurd hq List.not_mem_nil) dX3_mayHalve_20
def mX3_keepHalf (N : Nat) (t_halvesFound : Nat → Int32) (a0 : Int32) (a1 : Int32) : Option (Int32 × (Nat → Int32)) := if a1 < 0 then some (a1, t_halvesFound) else if a1 < 4 then if a1 < 0 ∨ 4 ≤ a1.toNatClampNeg then none else mi_let (upd t_halvesFound a1.toNatClampNeg a0) (fun f4 => some (a1 + 1, f4)) else some (a1, t_halvesFound)
abbrev rmX3_keepHalf : Room := { frames := 0, cells := 0, slots := 0, locals := 0 }
set_option maxHeartbeats 4000000 in
set_option maxRecDepth 100000 in
theorem ctX3_keepHalf (l : Launch) (N : Nat) (dC : Nat → ClassId) (dI : Nat → Nat → Nat) (sz : Nat) (h0 : Nat) (h0_halvesFound : Nat) (h0_roots : Nat) (h0_strides : Nat) (k_t_halvesFound : ClassId) (t_halvesFound : Nat → Int32) (a0 : Int32) (a1 : Int32) (rr : Int32 × (Nat → Int32)) (h : mX3_keepHalf N t_halvesFound a0 a1 = some rr) : Met l yX3_keepHalf wsX3_keepHalf rmX3_keepHalf (va_Pc [.ref h0, .int a0, .int a1] (fun U => U.heap.size = sz ∧ va_P (dC, dI) vwCl [(h0, .inr (3, [.ref h0_roots, .ref h0_strides, .ref h0_halvesFound])), (h0_halvesFound, .inl (k_t_halvesFound, 4, .inl t_halvesFound))] U.heap ∧ va_K (dC, dI) vwCl [(k_t_halvesFound, .int)] U ∧ nw_all U ∧ va_D (fun _ => True) [(h0, .inr (3, [.ref h0_roots, .ref h0_strides, .ref h0_halvesFound])), (h0_halvesFound, .inl (k_t_halvesFound, 4, .inl t_halvesFound))])) (va_Qi (fun (r : Int32) (u : (Nat → Int32)) => (r, u) = rr) (fun (u : (Nat → Int32)) t => match u with | u0 => va_P (dC, dI) vwCl [(h0, .inr (3, [.ref h0_roots, .ref h0_strides, .ref h0_halvesFound])), (h0_halvesFound, .inl (k_t_halvesFound, 4, .inl u0))] t.heap ∧ va_K (dC, dI) vwCl [(k_t_halvesFound, .int)] t ∧ va_D (va_A [(h0, .inr (3, [.ref h0_roots, .ref h0_strides, .ref h0_halvesFound])), (h0_halvesFound, .inl (k_t_halvesFound, 4, .inl t_halvesFound))] sz) [(h0, .inr (3, [.ref h0_roots, .ref h0_strides, .ref h0_halvesFound])), (h0_halvesFound, .inl (k_t_halvesFound, 4, .inl u0))]) (va_A [(h0, .inr (3, [.ref h0_roots, .ref h0_strides, .ref h0_halvesFound])), (h0_halvesFound, .inl (k_t_halvesFound, 4, .inl t_halvesFound))] sz)) 0 0 (va_A [(h0, .inr (3, [.ref h0_roots, .ref h0_strides, .ref h0_halvesFound])), (h0_halvesFound, .inl (k_t_halvesFound, 4, .inl t_halvesFound))] sz) := by
  refine Met.ofW (cc := cX3_keepHalf) (maxL := 3) (ret := (some .int)) (by decide) rfl ?_
  intro p e s m args below meth c s₁ B hml hv
  obtain ⟨rfl, hsz, hP, hK, hN, hD0⟩ := hv
  have hx := B.exec
  have hb := B.bytes
  have hr := B.returns
  have hts := atoms_spec (ws := wsX3_keepHalf) B.pre
  have hown : s.vm.findClass RX3 = some m.cls := findClass_of_methodNamed B.named
  have hlocks := B.notSynchronized
  subst hsz
  have hD := hD0.self (sz := s.heap.size)
  generalize hAe : va_A [(h0, .inr (3, [.ref h0_roots, .ref h0_strides, .ref h0_halvesFound])), (h0_halvesFound, .inl (k_t_halvesFound, 4, .inl t_halvesFound))] s.heap.size = A at hD ⊢
  have hA0 : ∀ q : Nat, s.heap.size ≤ q → A q := fun q h => by rw [← hAe]; exact Or.inr h
  have hS : va_S A s.heap s.heap [] := va_S.rf
  have hP : va_P (dC, dI) vwCl [(h0, .inr (3, [.ref h0_roots, .ref h0_strides, .ref h0_halvesFound])), (h0_halvesFound, .inl (k_t_halvesFound, 4, .inl t_halvesFound))] s.heap := hP
  have hl := lv_entry ([.ref h0, .int a0, .int a1]) (n := 3) (Nat.le_of_ble_eq_true rfl)
  rw [lg_entry_eq]
  generalize (lg_sl ([.ref h0, .int a0, .int a1]) ++ List.replicate (3 - (lg_sl ([.ref h0, .int a0, .int a1])).length) Slot.unset).toArray = ls at hl ⊢
  have hl : lv_has ls 3 [(0, .ref h0), (1, .int a0), (2, .int a1)] := hl
  dsimp only [mX3_keepHalf] at h
  refine lv_iload_n hx hb dX3_keepHalf_0 rfl (lv_at hl 2 rfl) ?_
  refine lv_if_lt (tgt := 13) hx hb dX3_keepHalf_1 (by decide) (fun c1 => ?_) (fun c1 => ?_)
  · replace h := (if_pos c1).symm.trans h
    refine lv_iload_n hx hb dX3_keepHalf_13 rfl (lv_at hl 2 rfl) ?_
    have hv : (a1, t_halvesFound) = rr := Option.some.inj h
    have hP9 := hP.sub (ws' := [(h0, .inr (3, [.ref h0_roots, .ref h0_strides, .ref h0_halvesFound])), (h0_halvesFound, .inl (k_t_halvesFound, 4, .inl t_halvesFound))]) [0, 1] rfl
    have hD9 := hD.sub (ws' := [(h0, .inr (3, [.ref h0_roots, .ref h0_strides, .ref h0_halvesFound])), (h0_halvesFound, .inl (k_t_halvesFound, 4, .inl t_halvesFound))]) [0, 1] (by decide) rfl
    have hK9 := hK.sub (tys' := [(k_t_halvesFound, .int)]) [0] rfl
    exact W.iret (v := a1) hx hb hr (fun t ht hW => ⟨⟨a1, t_halvesFound, rfl, hv, by rw [ht]; exact hP9, va_K.moved hW.alike hK9, hD9⟩, hS.F ht⟩) hS.2.2 dX3_keepHalf_14
  · replace h := (if_neg c1).symm.trans h
    refine lv_iload_n hx hb dX3_keepHalf_4 rfl (lv_at hl 2 rfl) ?_
    refine lv_aload_n hx hb dX3_keepHalf_5 rfl (lv_at hl 0 rfl) ?_
    refine va_get (D := (dC, dI)) (ci := 3) (v := .ref h0_halvesFound) (C := RX3) (T := TX3) (N := 3) hx hb hts (by decide +kernel) hown hK hP 0 rfl rfl 2 (by decide) (hts (.fieldLink RX3 25 "PointRings$Survey" "halvesFound" "[I") (by decide +kernel)) (fun _ h9 => h9) rfl dX3_keepHalf_6 ?_
    refine va_alen (v := 4) hx hb hK hP 1 0 rfl rfl rfl dX3_keepHalf_9 ?_
    refine lv_icmp_lt (tgt := 15) hx hb dX3_keepHalf_10 (by decide) (fun c2 => ?_) (fun c2 => ?_)
    · replace h := (if_pos c2).symm.trans h
      refine lv_aload_n hx hb dX3_keepHalf_15 rfl (lv_at hl 0 rfl) ?_
      refine va_get (D := (dC, dI)) (ci := 3) (v := .ref h0_halvesFound) (C := RX3) (T := TX3) (N := 3) hx hb hts (by decide +kernel) hown hK hP 0 rfl rfl 2 (by decide) (hts (.fieldLink RX3 25 "PointRings$Survey" "halvesFound" "[I") (by decide +kernel)) (fun _ h9 => h9) rfl dX3_keepHalf_16 ?_
      refine lv_iload_n hx hb dX3_keepHalf_19 rfl (lv_at hl 2 rfl) ?_
      refine lv_iload_n hx hb dX3_keepHalf_20 rfl (lv_at hl 1 rfl) ?_
      have hi3 : ¬ (a1 < 0 ∨ 4 ≤ a1.toNatClampNeg) := fun hz => absurd ((if_pos hz).symm.trans h) (fun hh => nomatch hh)
      replace h := (if_neg hi3).symm.trans h
      refine va_iast hx hb hK hP hD hS 1 0 rfl rfl hi3 dX3_keepHalf_21 (fun H locs hP hD hS => ?_)
      have hP : va_P (dC, dI) vwCl [(h0, .inr (3, [.ref h0_roots, .ref h0_strides, .ref h0_halvesFound])), (h0_halvesFound, .inl (k_t_halvesFound, 4, .inl (upd t_halvesFound a1.toNatClampNeg a0)))] H := hP
      have hD : va_D A [(h0, .inr (3, [.ref h0_roots, .ref h0_strides, .ref h0_halvesFound])), (h0_halvesFound, .inl (k_t_halvesFound, 4, .inl (upd t_halvesFound a1.toNatClampNeg a0)))] := hD
      obtain ⟨f4, ef4⟩ : ∃ z : Nat → Int32, z = upd t_halvesFound a1.toNatClampNeg a0 := ⟨_, rfl⟩
      rw [← ef4] at hP hD
      replace h := mi_use ef4 h
      refine lv_iload_n hx hb dX3_keepHalf_22 rfl (lv_at hl 2 rfl) ?_
      refine lv_iconst (v := 1) hx hb dX3_keepHalf_23 (by decide) ?_
      refine lv_iadd hx hb dX3_keepHalf_24 ?_
      have hv : (a1 + 1, f4) = rr := Option.some.inj h
      have hP9 := hP.sub (ws' := [(h0, .inr (3, [.ref h0_roots, .ref h0_strides, .ref h0_halvesFound])), (h0_halvesFound, .inl (k_t_halvesFound, 4, .inl f4))]) [0, 1] rfl
      have hD9 := hD.sub (ws' := [(h0, .inr (3, [.ref h0_roots, .ref h0_strides, .ref h0_halvesFound])), (h0_halvesFound, .inl (k_t_halvesFound, 4, .inl f4))]) [0, 1] (by decide) rfl
      have hK9 := hK.sub (tys' := [(k_t_halvesFound, .int)]) [0] rfl
      exact W.iret (v := (a1 + 1)) hx hb hr (fun t ht hW => ⟨⟨a1 + 1, f4, rfl, hv, by rw [ht]; exact hP9, va_K.moved hW.alike hK9, hD9⟩, hS.F ht⟩) hS.2.2 dX3_keepHalf_25
    · replace h := (if_neg c2).symm.trans h
      refine lv_iload_n hx hb dX3_keepHalf_13 rfl (lv_at hl 2 rfl) ?_
      have hv : (a1, t_halvesFound) = rr := Option.some.inj h
      have hP9 := hP.sub (ws' := [(h0, .inr (3, [.ref h0_roots, .ref h0_strides, .ref h0_halvesFound])), (h0_halvesFound, .inl (k_t_halvesFound, 4, .inl t_halvesFound))]) [0, 1] rfl
      have hD9 := hD.sub (ws' := [(h0, .inr (3, [.ref h0_roots, .ref h0_strides, .ref h0_halvesFound])), (h0_halvesFound, .inl (k_t_halvesFound, 4, .inl t_halvesFound))]) [0, 1] (by decide) rfl
      have hK9 := hK.sub (tys' := [(k_t_halvesFound, .int)]) [0] rfl
      exact W.iret (v := a1) hx hb hr (fun t ht hW => ⟨⟨a1, t_halvesFound, rfl, hv, by rw [ht]; exact hP9, va_K.moved hW.alike hK9, hD9⟩, hS.F ht⟩) hS.2.2 dX3_keepHalf_14
def mX3_foundHalf (N : Nat) (t_halvesFound : Nat → Int32) (a0 : Int32) : Option (Int32) := if a0 < 0 then some (-1) else if 4 ≤ a0 then some (-1) else if a0 < 0 ∨ 4 ≤ a0.toNatClampNeg then none else mi_let (t_halvesFound a0.toNatClampNeg) (fun v4 => some v4)
abbrev rmX3_foundHalf : Room := { frames := 0, cells := 0, slots := 0, locals := 0 }
set_option maxHeartbeats 4000000 in
set_option maxRecDepth 100000 in
theorem ctX3_foundHalf (l : Launch) (N : Nat) (dC : Nat → ClassId) (dI : Nat → Nat → Nat) (h0 : Nat) (h0_halvesFound : Nat) (h0_roots : Nat) (h0_strides : Nat) (k_t_halvesFound : ClassId) (t_halvesFound : Nat → Int32) (a0 : Int32) (rr : Int32) (h : mX3_foundHalf N t_halvesFound a0 = some rr) : Met l yX3_foundHalf wsX3_foundHalf rmX3_foundHalf (va_Pc [.ref h0, .int a0] (fun U => va_P (dC, dI) vwCl [(h0, .inr (3, [.ref h0_roots, .ref h0_strides, .ref h0_halvesFound])), (h0_halvesFound, .inl (k_t_halvesFound, 4, .inl t_halvesFound))] U.heap ∧ va_K (dC, dI) vwCl [(k_t_halvesFound, .int)] U ∧ nw_all U)) (vp_Si (fun r => r = rr)) 0 0 (fun _ => False) := by
  refine Met.ofW (cc := cX3_foundHalf) (maxL := 2) (ret := (some .int)) (by decide) rfl ?_
  intro p e s m args below meth c s₁ B hml hv
  obtain ⟨rfl, hP, hK, hN⟩ := hv
  have hx := B.exec
  have hb := B.bytes
  have hr := B.returns
  have hts := atoms_spec (ws := wsX3_foundHalf) B.pre
  have hown : s.vm.findClass RX3 = some m.cls := findClass_of_methodNamed B.named
  have hlocks := B.notSynchronized
  have hl := lv_entry ([.ref h0, .int a0]) (n := 2) (Nat.le_of_ble_eq_true rfl)
  rw [lg_entry_eq]
  generalize (lg_sl ([.ref h0, .int a0]) ++ List.replicate (2 - (lg_sl ([.ref h0, .int a0])).length) Slot.unset).toArray = ls at hl ⊢
  have hl : lv_has ls 2 [(0, .ref h0), (1, .int a0)] := hl
  dsimp only [mX3_foundHalf] at h
  refine lv_iload_n hx hb dX3_foundHalf_0 rfl (lv_at hl 1 rfl) ?_
  refine lv_if_lt (tgt := 22) hx hb dX3_foundHalf_1 (by decide) (fun c1 => ?_) (fun c1 => ?_)
  · replace h := (if_pos c1).symm.trans h
    refine lv_iconst (v := (-1)) hx hb dX3_foundHalf_22 (by decide) ?_
    have hv : (-1) = rr := Option.some.inj h
    exact W.iret (v := (-1)) hx hb hr (fun t ht hW => ⟨_, rfl, hv, ht⟩) (fun q hq => absurd hq List.not_mem_nil) dX3_foundHalf_23
  · replace h := (if_neg c1).symm.trans h
    refine lv_iload_n hx hb dX3_foundHalf_4 rfl (lv_at hl 1 rfl) ?_
    refine lv_aload_n hx hb dX3_foundHalf_5 rfl (lv_at hl 0 rfl) ?_
    refine va_get (D := (dC, dI)) (ci := 3) (v := .ref h0_halvesFound) (C := RX3) (T := TX3) (N := 3) hx hb hts (by decide +kernel) hown hK hP 0 rfl rfl 2 (by decide) (hts (.fieldLink RX3 25 "PointRings$Survey" "halvesFound" "[I") (by decide +kernel)) (fun _ h9 => h9) rfl dX3_foundHalf_6 ?_
    refine va_alen (v := 4) hx hb hK hP 1 0 rfl rfl rfl dX3_foundHalf_9 ?_
    refine lv_icmp_ge (tgt := 22) hx hb dX3_foundHalf_10 (by decide) (fun c2 => ?_) (fun c2 => ?_)
    · replace h := (if_pos c2).symm.trans h
      refine lv_iconst (v := (-1)) hx hb dX3_foundHalf_22 (by decide) ?_
      have hv : (-1) = rr := Option.some.inj h
      exact W.iret (v := (-1)) hx hb hr (fun t ht hW => ⟨_, rfl, hv, ht⟩) (fun q hq => absurd hq List.not_mem_nil) dX3_foundHalf_23
    · replace h := (if_neg c2).symm.trans h
      refine lv_aload_n hx hb dX3_foundHalf_13 rfl (lv_at hl 0 rfl) ?_
      refine va_get (D := (dC, dI)) (ci := 3) (v := .ref h0_halvesFound) (C := RX3) (T := TX3) (N := 3) hx hb hts (by decide +kernel) hown hK hP 0 rfl rfl 2 (by decide) (hts (.fieldLink RX3 25 "PointRings$Survey" "halvesFound" "[I") (by decide +kernel)) (fun _ h9 => h9) rfl dX3_foundHalf_14 ?_
      refine lv_iload_n hx hb dX3_foundHalf_17 rfl (lv_at hl 1 rfl) ?_
      have hi3 : ¬ (a0 < 0 ∨ 4 ≤ a0.toNatClampNeg) := fun hz => absurd ((if_pos hz).symm.trans h) (fun hh => nomatch hh)
      replace h := (if_neg hi3).symm.trans h
      refine va_iald hx hb hK hP 1 0 rfl rfl hi3 dX3_foundHalf_18 ?_
      refine lv_topi (fun v4 ev4 => ?_)
      replace h := mi_use ev4 h
      refine lv_goto (tgt := 23) hx hb dX3_foundHalf_19 (by decide) ?_
      have hv : v4 = rr := Option.some.inj h
      exact W.iret (v := v4) hx hb hr (fun t ht hW => ⟨_, rfl, hv, ht⟩) (fun q hq => absurd hq List.not_mem_nil) dX3_foundHalf_23
def mX3_leastRoot (N : Nat) (t_roots_prime : Int32) (t_roots_least : Nat → Int32) (a0 : Int32) (a1 : Int32) : Option (Int32 × Int32 × (Nat → Int32)) := (mX1_leastRoot N t_roots_prime t_roots_least a0 a1).bind (fun r1 => match r1 with | (r4, u2, f3) => some (r4, u2, f3))
abbrev rmX3_leastRoot : Room := { frames := 2, cells := 0, slots := 0, locals := 44 }
set_option maxHeartbeats 4000000 in
set_option maxRecDepth 100000 in
theorem ctX3_leastRoot (l : Launch) (N : Nat) (dC : Nat → ClassId) (dI : Nat → Nat → Nat) (sz : Nat) (h0 : Nat) (h0_roots : Nat) (h0_roots_least : Nat) (h0_strides : Nat) (h0_halvesFound : Nat) (k_t_roots_least : ClassId) (t_roots_prime : Int32) (t_roots_least : Nat → Int32) (a0 : Int32) (a1 : Int32) (rr : Int32 × Int32 × (Nat → Int32)) (h : mX3_leastRoot N t_roots_prime t_roots_least a0 a1 = some rr) : Met l yX3_leastRoot wsX3_leastRoot rmX3_leastRoot (va_Pc [.ref h0, .int a0, .int a1] (fun U => U.heap.size = sz ∧ va_P (dC, dI) vwCl [(h0, .inr (3, [.ref h0_roots, .ref h0_strides, .ref h0_halvesFound])), (h0_roots, .inr (1, [.ref h0_roots_least, .int t_roots_prime])), (h0_roots_least, .inl (k_t_roots_least, 10007, .inl t_roots_least))] U.heap ∧ va_K (dC, dI) vwCl [(k_t_roots_least, .int)] U ∧ nw_all U ∧ va_D (fun _ => True) [(h0, .inr (3, [.ref h0_roots, .ref h0_strides, .ref h0_halvesFound])), (h0_roots, .inr (1, [.ref h0_roots_least, .int t_roots_prime])), (h0_roots_least, .inl (k_t_roots_least, 10007, .inl t_roots_least))])) (va_Qi (fun (r : Int32) (u : Int32 × (Nat → Int32)) => (r, u) = rr) (fun (u : Int32 × (Nat → Int32)) t => match u with | (u0, u1) => va_P (dC, dI) vwCl [(h0, .inr (3, [.ref h0_roots, .ref h0_strides, .ref h0_halvesFound])), (h0_roots, .inr (1, [.ref h0_roots_least, .int u0])), (h0_roots_least, .inl (k_t_roots_least, 10007, .inl u1))] t.heap ∧ va_K (dC, dI) vwCl [(k_t_roots_least, .int)] t ∧ va_D (va_A [(h0, .inr (3, [.ref h0_roots, .ref h0_strides, .ref h0_halvesFound])), (h0_roots, .inr (1, [.ref h0_roots_least, .int t_roots_prime])), (h0_roots_least, .inl (k_t_roots_least, 10007, .inl t_roots_least))] sz) [(h0, .inr (3, [.ref h0_roots, .ref h0_strides, .ref h0_halvesFound])), (h0_roots, .inr (1, [.ref h0_roots_least, .int u0])), (h0_roots_least, .inl (k_t_roots_least, 10007, .inl u1))]) (va_A [(h0, .inr (3, [.ref h0_roots, .ref h0_strides, .ref h0_halvesFound])), (h0_roots, .inr (1, [.ref h0_roots_least, .int t_roots_prime])), (h0_roots_least, .inl (k_t_roots_least, 10007, .inl t_roots_least))] sz)) 0 0 (va_A [(h0, .inr (3, [.ref h0_roots, .ref h0_strides, .ref h0_halvesFound])), (h0_roots, .inr (1, [.ref h0_roots_least, .int t_roots_prime])), (h0_roots_least, .inl (k_t_roots_least, 10007, .inl t_roots_least))] sz) := by
  refine Met.ofW (cc := cX3_leastRoot) (maxL := 3) (ret := (some .int)) (by decide) rfl ?_
  intro p e s m args below meth c s₁ B hml hv
  obtain ⟨rfl, hsz, hP, hK, hN, hD0⟩ := hv
  have hx := B.exec
  have hb := B.bytes
  have hr := B.returns
  have hts := atoms_spec (ws := wsX3_leastRoot) B.pre
  have hown : s.vm.findClass RX3 = some m.cls := findClass_of_methodNamed B.named
  have hlocks := B.notSynchronized
  subst hsz
  have hD := hD0.self (sz := s.heap.size)
  generalize hAe : va_A [(h0, .inr (3, [.ref h0_roots, .ref h0_strides, .ref h0_halvesFound])), (h0_roots, .inr (1, [.ref h0_roots_least, .int t_roots_prime])), (h0_roots_least, .inl (k_t_roots_least, 10007, .inl t_roots_least))] s.heap.size = A at hD ⊢
  have hA0 : ∀ q : Nat, s.heap.size ≤ q → A q := fun q h => by rw [← hAe]; exact Or.inr h
  have hS : va_S A s.heap s.heap [] := va_S.rf
  have hP : va_P (dC, dI) vwCl [(h0, .inr (3, [.ref h0_roots, .ref h0_strides, .ref h0_halvesFound])), (h0_roots, .inr (1, [.ref h0_roots_least, .int t_roots_prime])), (h0_roots_least, .inl (k_t_roots_least, 10007, .inl t_roots_least))] s.heap := hP
  have hl := lv_entry ([.ref h0, .int a0, .int a1]) (n := 3) (Nat.le_of_ble_eq_true rfl)
  rw [lg_entry_eq]
  generalize (lg_sl ([.ref h0, .int a0, .int a1]) ++ List.replicate (3 - (lg_sl ([.ref h0, .int a0, .int a1])).length) Slot.unset).toArray = ls at hl ⊢
  have hl : lv_has ls 3 [(0, .ref h0), (1, .int a0), (2, .int a1)] := hl
  dsimp only [mX3_leastRoot] at h
  refine lv_aload_n hx hb dX3_leastRoot_0 rfl (lv_at hl 0 rfl) ?_
  refine va_get (D := (dC, dI)) (ci := 3) (v := .ref h0_roots) (C := RX3) (T := TX3) (N := 3) hx hb hts (by decide +kernel) hown hK hP 0 rfl rfl 0 (by decide) (hts (.fieldLink RX3 12 "PointRings$Survey" "roots" "LPointRings$Roots;") (by decide +kernel)) (fun _ h9 => h9) rfl dX3_leastRoot_1 ?_
  refine lv_iload_n hx hb dX3_leastRoot_4 rfl (lv_at hl 1 rfl) ?_
  refine lv_iload_n hx hb dX3_leastRoot_5 rfl (lv_at hl 2 rfl) ?_
  obtain ⟨r1, hr1, h⟩ := Option.bind_eq_some_iff.mp h
  have hPc := hP.sub (ws' := [(h0_roots, .inr (1, [.ref h0_roots_least, .int t_roots_prime])), (h0_roots_least, .inl (k_t_roots_least, 10007, .inl t_roots_least))]) [1, 2] rfl
  have hDc := hD.sub (ws' := [(h0_roots, .inr (1, [.ref h0_roots_least, .int t_roots_prime])), (h0_roots_least, .inl (k_t_roots_least, 10007, .inl t_roots_least))]) [1, 2] (by decide) rfl
  have hKc := hK.sub (tys' := [(k_t_roots_least, .int)]) [0] rfl
  have hFc := va_free (wc := [(h0_roots, .inr (1, [.ref h0_roots_least, .int t_roots_prime])), (h0_roots_least, .inl (k_t_roots_least, 10007, .inl t_roots_least))]) hD hS hA0 [1, 2] rfl
  refine va_calli (va_runV (As := [.int a0, .int a1]) (rest := []) ⟨hx, hb, hml, hown, hts⟩ (ctX1_leastRoot l N dC dI _ h0_roots h0_roots_least k_t_roots_least t_roots_prime t_roots_least a0 a1 r1 hr1) (cwV 2 hts gX3_leastRoot_X1_leastRoot rfl rfl rfl (by decide +kernel) ⟨Nat.le_of_ble_eq_true rfl, Nat.le_of_ble_eq_true rfl⟩) ⟨fun a U g mk q => by obtain ⟨q0, q1, qP, qK, qN, qD⟩ := q; exact ⟨q0, q1, qP, va_K.moved (u := U) (U := U.calling g mk a) (Vm.Alike.refl U.vm) qK, nw_same (u := U) (U := U.calling g mk a) rfl qN, qD⟩, va_recv hKc hPc (ci := 1) (q0 := 0) rfl rfl, fun U hU hW => ⟨rfl, by rw [hU], by rw [hU]; exact hPc, va_K.moved hW.alike hKc, nw_warm hW hN, hDc.weaken (fun _ _ _ _ => trivial)⟩⟩ rfl rfl hl.1 rfl (lv_room (Nat.le_of_ble_eq_true rfl)) dX3_leastRoot_6 ⟨Nat.le_of_ble_eq_true rfl, Nat.le_of_ble_eq_true rfl⟩) hS (fun q _ h => hFc q h) hFc (fun rz u t H1 locs ht hvm hw hB1 hz1 hk1 hS => ?_)
  obtain ⟨u2, f3⟩ := u
  obtain ⟨hP1, hK1, hD1⟩ := hB1
  rw [ht] at hP1
  have hK1 := va_K.moved hvm.symm hK1
  obtain ⟨r4, rfl⟩ : ∃ z, z = rz := ⟨_, rfl⟩
  subst hw
  try dsimp only at h
  obtain ⟨hP, hD⟩ := va_join (wr := [(h0, .inr (3, [.ref h0_roots, .ref h0_strides, .ref h0_halvesFound]))]) (w1 := [(h0_roots, .inr (1, [.ref h0_roots_least, .int u2])), (h0_roots_least, .inl (k_t_roots_least, 10007, .inl f3))]) hP hD [1, 2] [0] rfl rfl (by decide) (by decide) hk1 hFc hP1 hD1
  generalize H1 = H at hP hS ⊢
  have hP := hP.sub (ws' := [(h0, .inr (3, [.ref h0_roots, .ref h0_strides, .ref h0_halvesFound])), (h0_roots, .inr (1, [.ref h0_roots_least, .int u2])), (h0_roots_least, .inl (k_t_roots_least, 10007, .inl f3))]) [0, 1, 2] rfl
  have hD := hD.sub (ws' := [(h0, .inr (3, [.ref h0_roots, .ref h0_strides, .ref h0_halvesFound])), (h0_roots, .inr (1, [.ref h0_roots_least, .int u2])), (h0_roots_least, .inl (k_t_roots_least, 10007, .inl f3))]) [0, 1, 2] (by decide) rfl
  have hv : (r4, u2, f3) = rr := Option.some.inj h
  have hP9 := hP.sub (ws' := [(h0, .inr (3, [.ref h0_roots, .ref h0_strides, .ref h0_halvesFound])), (h0_roots, .inr (1, [.ref h0_roots_least, .int u2])), (h0_roots_least, .inl (k_t_roots_least, 10007, .inl f3))]) [0, 1, 2] rfl
  have hD9 := hD.sub (ws' := [(h0, .inr (3, [.ref h0_roots, .ref h0_strides, .ref h0_halvesFound])), (h0_roots, .inr (1, [.ref h0_roots_least, .int u2])), (h0_roots_least, .inl (k_t_roots_least, 10007, .inl f3))]) [0, 1, 2] (by decide) rfl
  have hK9 := hK.sub (tys' := [(k_t_roots_least, .int)]) [0] rfl
  exact W.iret (v := r4) hx hb hr (fun t ht hW => ⟨⟨r4, (u2, f3), rfl, hv, by rw [ht]; exact hP9, va_K.moved hW.alike hK9, hD9⟩, hS.F ht⟩) hS.2.2 dX3_leastRoot_9
def mX3_lesserAt (N : Nat) (t_roots_prime : Int32) (t_roots_least : Nat → Int32) (p0_p : Int32) (p0_a : Int32) (p0_b : Int32) (a1 : Int32) : Option (Int32 × Int32 × (Nat → Int32)) := (mX0_cubic N p0_p p0_a p0_b a1).bind (fun r1 => (mX1_leastRoot N t_roots_prime t_roots_least r1 p0_p).bind (fun r2 => match r2 with | (r5, u3, f4) => if 0 ≤ r5 then (mX5_pair N a1 r5).bind (fun r7 => some (r7, u3, f4)) else some ((-1), u3, f4)))
abbrev rmX3_lesserAt : Room := { frames := 2, cells := 0, slots := 0, locals := 44 }
set_option maxHeartbeats 4000000 in
set_option maxRecDepth 100000 in
theorem ctX3_lesserAt (l : Launch) (N : Nat) (dC : Nat → ClassId) (dI : Nat → Nat → Nat) (sz : Nat) (h0 : Nat) (h0_roots : Nat) (h0_roots_least : Nat) (h1 : Nat) (h0_strides : Nat) (h0_halvesFound : Nat) (k_t_roots_least : ClassId) (t_roots_prime : Int32) (t_roots_least : Nat → Int32) (p0_p : Int32) (p0_a : Int32) (p0_b : Int32) (p0_from : Int32) (p0_kernelPoint : Int32) (p0_kernelOrder : Int32) (p0_points : Int32) (p0_inner : Int32) (p0_outer : Int32) (p0_makersFound : Int32) (p0_first : Int32) (p0_second : Int32) (a1 : Int32) (rr : Int32 × Int32 × (Nat → Int32)) (h : mX3_lesserAt N t_roots_prime t_roots_least p0_p p0_a p0_b a1 = some rr) : Met l yX3_lesserAt wsX3_lesserAt rmX3_lesserAt (va_Pc [.ref h0, .ref h1, .int a1] (fun U => U.heap.size = sz ∧ va_P (dC, dI) vwCl [(h0, .inr (3, [.ref h0_roots, .ref h0_strides, .ref h0_halvesFound])), (h0_roots, .inr (1, [.ref h0_roots_least, .int t_roots_prime])), (h0_roots_least, .inl (k_t_roots_least, 10007, .inl t_roots_least)), (h1, .inr (0, [.int p0_p, .int p0_a, .int p0_b, .int p0_from, .int p0_kernelPoint, .int p0_kernelOrder, .int p0_points, .int p0_inner, .int p0_outer, .int p0_makersFound, .int p0_first, .int p0_second]))] U.heap ∧ va_K (dC, dI) vwCl [(k_t_roots_least, .int)] U ∧ nw_all U ∧ va_D (fun _ => True) [(h0, .inr (3, [.ref h0_roots, .ref h0_strides, .ref h0_halvesFound])), (h0_roots, .inr (1, [.ref h0_roots_least, .int t_roots_prime])), (h0_roots_least, .inl (k_t_roots_least, 10007, .inl t_roots_least)), (h1, .inr (0, [.int p0_p, .int p0_a, .int p0_b, .int p0_from, .int p0_kernelPoint, .int p0_kernelOrder, .int p0_points, .int p0_inner, .int p0_outer, .int p0_makersFound, .int p0_first, .int p0_second]))])) (va_Qi (fun (r : Int32) (u : Int32 × (Nat → Int32)) => (r, u) = rr) (fun (u : Int32 × (Nat → Int32)) t => match u with | (u0, u1) => va_P (dC, dI) vwCl [(h0, .inr (3, [.ref h0_roots, .ref h0_strides, .ref h0_halvesFound])), (h0_roots, .inr (1, [.ref h0_roots_least, .int u0])), (h0_roots_least, .inl (k_t_roots_least, 10007, .inl u1)), (h1, .inr (0, [.int p0_p, .int p0_a, .int p0_b, .int p0_from, .int p0_kernelPoint, .int p0_kernelOrder, .int p0_points, .int p0_inner, .int p0_outer, .int p0_makersFound, .int p0_first, .int p0_second]))] t.heap ∧ va_K (dC, dI) vwCl [(k_t_roots_least, .int)] t ∧ va_D (va_A [(h0, .inr (3, [.ref h0_roots, .ref h0_strides, .ref h0_halvesFound])), (h0_roots, .inr (1, [.ref h0_roots_least, .int t_roots_prime])), (h0_roots_least, .inl (k_t_roots_least, 10007, .inl t_roots_least)), (h1, .inr (0, [.int p0_p, .int p0_a, .int p0_b, .int p0_from, .int p0_kernelPoint, .int p0_kernelOrder, .int p0_points, .int p0_inner, .int p0_outer, .int p0_makersFound, .int p0_first, .int p0_second]))] sz) [(h0, .inr (3, [.ref h0_roots, .ref h0_strides, .ref h0_halvesFound])), (h0_roots, .inr (1, [.ref h0_roots_least, .int u0])), (h0_roots_least, .inl (k_t_roots_least, 10007, .inl u1)), (h1, .inr (0, [.int p0_p, .int p0_a, .int p0_b, .int p0_from, .int p0_kernelPoint, .int p0_kernelOrder, .int p0_points, .int p0_inner, .int p0_outer, .int p0_makersFound, .int p0_first, .int p0_second]))]) (va_A [(h0, .inr (3, [.ref h0_roots, .ref h0_strides, .ref h0_halvesFound])), (h0_roots, .inr (1, [.ref h0_roots_least, .int t_roots_prime])), (h0_roots_least, .inl (k_t_roots_least, 10007, .inl t_roots_least)), (h1, .inr (0, [.int p0_p, .int p0_a, .int p0_b, .int p0_from, .int p0_kernelPoint, .int p0_kernelOrder, .int p0_points, .int p0_inner, .int p0_outer, .int p0_makersFound, .int p0_first, .int p0_second]))] sz)) 0 0 (va_A [(h0, .inr (3, [.ref h0_roots, .ref h0_strides, .ref h0_halvesFound])), (h0_roots, .inr (1, [.ref h0_roots_least, .int t_roots_prime])), (h0_roots_least, .inl (k_t_roots_least, 10007, .inl t_roots_least)), (h1, .inr (0, [.int p0_p, .int p0_a, .int p0_b, .int p0_from, .int p0_kernelPoint, .int p0_kernelOrder, .int p0_points, .int p0_inner, .int p0_outer, .int p0_makersFound, .int p0_first, .int p0_second]))] sz) := by
  refine Met.ofW (cc := cX3_lesserAt) (maxL := 4) (ret := (some .int)) (by decide) rfl ?_
  intro p e s m args below meth c s₁ B hml hv
  obtain ⟨rfl, hsz, hP, hK, hN, hD0⟩ := hv
  have hx := B.exec
  have hb := B.bytes
  have hr := B.returns
  have hts := atoms_spec (ws := wsX3_lesserAt) B.pre
  have hown : s.vm.findClass RX3 = some m.cls := findClass_of_methodNamed B.named
  have hlocks := B.notSynchronized
  subst hsz
  have hD := hD0.self (sz := s.heap.size)
  generalize hAe : va_A [(h0, .inr (3, [.ref h0_roots, .ref h0_strides, .ref h0_halvesFound])), (h0_roots, .inr (1, [.ref h0_roots_least, .int t_roots_prime])), (h0_roots_least, .inl (k_t_roots_least, 10007, .inl t_roots_least)), (h1, .inr (0, [.int p0_p, .int p0_a, .int p0_b, .int p0_from, .int p0_kernelPoint, .int p0_kernelOrder, .int p0_points, .int p0_inner, .int p0_outer, .int p0_makersFound, .int p0_first, .int p0_second]))] s.heap.size = A at hD ⊢
  have hA0 : ∀ q : Nat, s.heap.size ≤ q → A q := fun q h => by rw [← hAe]; exact Or.inr h
  have hS : va_S A s.heap s.heap [] := va_S.rf
  have hP : va_P (dC, dI) vwCl [(h0, .inr (3, [.ref h0_roots, .ref h0_strides, .ref h0_halvesFound])), (h0_roots, .inr (1, [.ref h0_roots_least, .int t_roots_prime])), (h0_roots_least, .inl (k_t_roots_least, 10007, .inl t_roots_least)), (h1, .inr (0, [.int p0_p, .int p0_a, .int p0_b, .int p0_from, .int p0_kernelPoint, .int p0_kernelOrder, .int p0_points, .int p0_inner, .int p0_outer, .int p0_makersFound, .int p0_first, .int p0_second]))] s.heap := hP
  have hl := lv_entry ([.ref h0, .ref h1, .int a1]) (n := 4) (Nat.le_of_ble_eq_true rfl)
  rw [lg_entry_eq]
  generalize (lg_sl ([.ref h0, .ref h1, .int a1]) ++ List.replicate (4 - (lg_sl ([.ref h0, .ref h1, .int a1])).length) Slot.unset).toArray = ls at hl ⊢
  have hl : lv_has ls 4 [(0, .ref h0), (1, .ref h1), (2, .int a1)] := hl
  dsimp only [mX3_lesserAt] at h
  refine lv_aload_n hx hb dX3_lesserAt_0 rfl (lv_at hl 0 rfl) ?_
  refine va_get (D := (dC, dI)) (ci := 3) (v := .ref h0_roots) (C := RX3) (T := TX3) (N := 3) hx hb hts (by decide +kernel) hown hK hP 0 rfl rfl 0 (by decide) (hts (.fieldLink RX3 12 "PointRings$Survey" "roots" "LPointRings$Roots;") (by decide +kernel)) (fun _ h9 => h9) rfl dX3_lesserAt_1 ?_
  refine lv_aload_n hx hb dX3_lesserAt_4 rfl (lv_at hl 1 rfl) ?_
  refine lv_iload_n hx hb dX3_lesserAt_5 rfl (lv_at hl 2 rfl) ?_
  obtain ⟨r1, hr1, h⟩ := Option.bind_eq_some_iff.mp h
  have hPc := hP.sub (ws' := [(h1, .inr (0, [.int p0_p, .int p0_a, .int p0_b, .int p0_from, .int p0_kernelPoint, .int p0_kernelOrder, .int p0_points, .int p0_inner, .int p0_outer, .int p0_makersFound, .int p0_first, .int p0_second]))]) [3] rfl
  have hKc := hK.sub (tys' := []) [] rfl
  refine vp_callSi (W.runV (As := [.int a1]) (rest := [.ref h0_roots]) ⟨hx, hb, hml, hown, hts⟩ (ctX0_cubic l N dC dI  h1 p0_p p0_a p0_b p0_from p0_kernelPoint p0_kernelOrder p0_points p0_inner p0_outer p0_makersFound p0_first p0_second a1 r1 hr1) (cwV 1 hts gX3_lesserAt_X0_cubic rfl rfl rfl (by decide +kernel) ⟨Nat.le_of_ble_eq_true rfl, Nat.le_of_ble_eq_true rfl⟩) ⟨fun a U g mk q => by obtain ⟨q0, qP, qK, qN⟩ := q; exact ⟨q0, qP, va_K.moved (u := U) (U := U.calling g mk a) (Vm.Alike.refl U.vm) qK, nw_same (u := U) (U := U.calling g mk a) rfl qN⟩, va_recv hKc hPc (ci := 0) (q0 := 0) rfl rfl, fun U hU hW => ⟨rfl, by rw [hU]; exact hPc, va_K.moved hW.alike hKc, nw_warm hW hN⟩⟩ rfl rfl hl.1 rfl (lv_room (Nat.le_of_ble_eq_true rfl)) dX3_lesserAt_6 ⟨Nat.le_of_ble_eq_true rfl, Nat.le_of_ble_eq_true rfl⟩) (fun q9 eq9 => ?_)
  subst q9
  refine lv_aload_n hx hb dX3_lesserAt_9 rfl (lv_at hl 1 rfl) ?_
  refine va_get (D := (dC, dI)) (ci := 0) (v := .int p0_p) (C := RX0) (T := TX0) (N := 12) hx hb hts (by decide +kernel) hown hK hP 3 rfl rfl 0 (by decide) (hts (.fieldLink RX3 39 "PointRings$Curve" "p" "I") (by decide +kernel)) (fun _ h9 => h9) rfl dX3_lesserAt_10 ?_
  obtain ⟨r2, hr2, h⟩ := Option.bind_eq_some_iff.mp h
  have hPc := hP.sub (ws' := [(h0_roots, .inr (1, [.ref h0_roots_least, .int t_roots_prime])), (h0_roots_least, .inl (k_t_roots_least, 10007, .inl t_roots_least))]) [1, 2] rfl
  have hDc := hD.sub (ws' := [(h0_roots, .inr (1, [.ref h0_roots_least, .int t_roots_prime])), (h0_roots_least, .inl (k_t_roots_least, 10007, .inl t_roots_least))]) [1, 2] (by decide) rfl
  have hKc := hK.sub (tys' := [(k_t_roots_least, .int)]) [0] rfl
  have hFc := va_free (wc := [(h0_roots, .inr (1, [.ref h0_roots_least, .int t_roots_prime])), (h0_roots_least, .inl (k_t_roots_least, 10007, .inl t_roots_least))]) hD hS hA0 [1, 2] rfl
  refine va_calli (va_runV (As := [.int r1, .int p0_p]) (rest := []) ⟨hx, hb, hml, hown, hts⟩ (ctX1_leastRoot l N dC dI _ h0_roots h0_roots_least k_t_roots_least t_roots_prime t_roots_least r1 p0_p r2 hr2) (cwV 2 hts gX3_lesserAt_X1_leastRoot rfl rfl rfl (by decide +kernel) ⟨Nat.le_of_ble_eq_true rfl, Nat.le_of_ble_eq_true rfl⟩) ⟨fun a U g mk q => by obtain ⟨q0, q1, qP, qK, qN, qD⟩ := q; exact ⟨q0, q1, qP, va_K.moved (u := U) (U := U.calling g mk a) (Vm.Alike.refl U.vm) qK, nw_same (u := U) (U := U.calling g mk a) rfl qN, qD⟩, va_recv hKc hPc (ci := 1) (q0 := 0) rfl rfl, fun U hU hW => ⟨rfl, by rw [hU], by rw [hU]; exact hPc, va_K.moved hW.alike hKc, nw_warm hW hN, hDc.weaken (fun _ _ _ _ => trivial)⟩⟩ rfl rfl hl.1 rfl (lv_room (Nat.le_of_ble_eq_true rfl)) dX3_lesserAt_13 ⟨Nat.le_of_ble_eq_true rfl, Nat.le_of_ble_eq_true rfl⟩) hS (fun q _ h => hFc q h) hFc (fun rz u t H1 locs ht hvm hw hB1 hz1 hk1 hS => ?_)
  obtain ⟨u3, f4⟩ := u
  obtain ⟨hP1, hK1, hD1⟩ := hB1
  rw [ht] at hP1
  have hK1 := va_K.moved hvm.symm hK1
  obtain ⟨r5, rfl⟩ : ∃ z, z = rz := ⟨_, rfl⟩
  subst hw
  try dsimp only at h
  obtain ⟨hP, hD⟩ := va_join (wr := [(h0, .inr (3, [.ref h0_roots, .ref h0_strides, .ref h0_halvesFound])), (h1, .inr (0, [.int p0_p, .int p0_a, .int p0_b, .int p0_from, .int p0_kernelPoint, .int p0_kernelOrder, .int p0_points, .int p0_inner, .int p0_outer, .int p0_makersFound, .int p0_first, .int p0_second]))]) (w1 := [(h0_roots, .inr (1, [.ref h0_roots_least, .int u3])), (h0_roots_least, .inl (k_t_roots_least, 10007, .inl f4))]) hP hD [1, 2] [0, 3] rfl rfl (by decide) (by decide) hk1 hFc hP1 hD1
  generalize H1 = H at hP hS ⊢
  have hP := hP.sub (ws' := [(h0, .inr (3, [.ref h0_roots, .ref h0_strides, .ref h0_halvesFound])), (h0_roots, .inr (1, [.ref h0_roots_least, .int u3])), (h0_roots_least, .inl (k_t_roots_least, 10007, .inl f4)), (h1, .inr (0, [.int p0_p, .int p0_a, .int p0_b, .int p0_from, .int p0_kernelPoint, .int p0_kernelOrder, .int p0_points, .int p0_inner, .int p0_outer, .int p0_makersFound, .int p0_first, .int p0_second]))]) [0, 2, 3, 1] rfl
  have hD := hD.sub (ws' := [(h0, .inr (3, [.ref h0_roots, .ref h0_strides, .ref h0_halvesFound])), (h0_roots, .inr (1, [.ref h0_roots_least, .int u3])), (h0_roots_least, .inl (k_t_roots_least, 10007, .inl f4)), (h1, .inr (0, [.int p0_p, .int p0_a, .int p0_b, .int p0_from, .int p0_kernelPoint, .int p0_kernelOrder, .int p0_points, .int p0_inner, .int p0_outer, .int p0_makersFound, .int p0_first, .int p0_second]))]) [0, 2, 3, 1] (by decide) rfl
  refine lv_istore_n (lv' := [(3, .int r5), (0, .ref h0), (1, .ref h1), (2, .int a1)]) hx hb dX3_lesserAt_16 rfl hl (by decide) rfl (fun ls hl => ?_)
  refine lv_iload_n hx hb dX3_lesserAt_17 rfl (lv_at hl 0 rfl) ?_
  refine lv_if_ge (tgt := 25) hx hb dX3_lesserAt_18 (by decide) (fun c6 => ?_) (fun c6 => ?_)
  · replace h := (if_pos c6).symm.trans h
    refine lv_iload_n hx hb dX3_lesserAt_25 rfl (lv_at hl 3 rfl) ?_
    refine lv_iload_n hx hb dX3_lesserAt_26 rfl (lv_at hl 0 rfl) ?_
    obtain ⟨r7, hr7, h⟩ := Option.bind_eq_some_iff.mp h
    refine vp_callSi (mi_cr (va_runSN (As := [.int a1, .int r5]) (rest := []) ⟨hx, hb, hml, hown, hts⟩ (ctX5_pair l N  a1 r5 r7 hr7) ⟨va_cnB 2 hts gX3_lesserAt_X5_pair_n73 rfl rfl rfl (nw_X3_73 hN) (hts (.initialized RX5) (by decide +kernel)) (by decide +kernel) ⟨Nat.le_of_ble_eq_true rfl, Nat.le_of_ble_eq_true rfl⟩, hts (.static yX5_pair) (by decide +kernel), trivial⟩ preEq rfl rfl hl.1 rfl (lv_room (Nat.le_of_ble_eq_true rfl)) dX3_lesserAt_27 ⟨Nat.le_of_ble_eq_true rfl, Nat.le_of_ble_eq_true rfl⟩)) (fun q9 eq9 => ?_)
    subst q9
    have hv : (r7, u3, f4) = rr := Option.some.inj h
    have hP9 := hP.sub (ws' := [(h0, .inr (3, [.ref h0_roots, .ref h0_strides, .ref h0_halvesFound])), (h0_roots, .inr (1, [.ref h0_roots_least, .int u3])), (h0_roots_least, .inl (k_t_roots_least, 10007, .inl f4)), (h1, .inr (0, [.int p0_p, .int p0_a, .int p0_b, .int p0_from, .int p0_kernelPoint, .int p0_kernelOrder, .int p0_points, .int p0_inner, .int p0_outer, .int p0_makersFound, .int p0_first, .int p0_second]))]) [0, 1, 2, 3] rfl
    have hD9 := hD.sub (ws' := [(h0, .inr (3, [.ref h0_roots, .ref h0_strides, .ref h0_halvesFound])), (h0_roots, .inr (1, [.ref h0_roots_least, .int u3])), (h0_roots_least, .inl (k_t_roots_least, 10007, .inl f4)), (h1, .inr (0, [.int p0_p, .int p0_a, .int p0_b, .int p0_from, .int p0_kernelPoint, .int p0_kernelOrder, .int p0_points, .int p0_inner, .int p0_outer, .int p0_makersFound, .int p0_first, .int p0_second]))]) [0, 1, 2, 3] (by decide) rfl
    have hK9 := hK.sub (tys' := [(k_t_roots_least, .int)]) [0] rfl
    exact W.iret (v := r7) hx hb hr (fun t ht hW => ⟨⟨r7, (u3, f4), rfl, hv, by rw [ht]; exact hP9, va_K.moved hW.alike hK9, hD9⟩, hS.F ht⟩) hS.2.2 dX3_lesserAt_30
  · replace h := (if_neg c6).symm.trans h
    refine lv_iconst (v := (-1)) hx hb dX3_lesserAt_21 (by decide) ?_
    refine lv_goto (tgt := 30) hx hb dX3_lesserAt_22 (by decide) ?_
    have hv : ((-1), u3, f4) = rr := Option.some.inj h
    have hP9 := hP.sub (ws' := [(h0, .inr (3, [.ref h0_roots, .ref h0_strides, .ref h0_halvesFound])), (h0_roots, .inr (1, [.ref h0_roots_least, .int u3])), (h0_roots_least, .inl (k_t_roots_least, 10007, .inl f4)), (h1, .inr (0, [.int p0_p, .int p0_a, .int p0_b, .int p0_from, .int p0_kernelPoint, .int p0_kernelOrder, .int p0_points, .int p0_inner, .int p0_outer, .int p0_makersFound, .int p0_first, .int p0_second]))]) [0, 1, 2, 3] rfl
    have hD9 := hD.sub (ws' := [(h0, .inr (3, [.ref h0_roots, .ref h0_strides, .ref h0_halvesFound])), (h0_roots, .inr (1, [.ref h0_roots_least, .int u3])), (h0_roots_least, .inl (k_t_roots_least, 10007, .inl f4)), (h1, .inr (0, [.int p0_p, .int p0_a, .int p0_b, .int p0_from, .int p0_kernelPoint, .int p0_kernelOrder, .int p0_points, .int p0_inner, .int p0_outer, .int p0_makersFound, .int p0_first, .int p0_second]))]) [0, 1, 2, 3] (by decide) rfl
    have hK9 := hK.sub (tys' := [(k_t_roots_least, .int)]) [0] rfl
    exact W.iret (v := (-1)) hx hb hr (fun t ht hW => ⟨⟨(-1), (u3, f4), rfl, hv, by rw [ht]; exact hP9, va_K.moved hW.alike hK9, hD9⟩, hS.F ht⟩) hS.2.2 dX3_lesserAt_30
def mX3_pointNumber_b12 (N : Nat) (p0_p : Int32) (p0_a : Int32) (p0_b : Int32) (a1 : Int32) (st : Int32 × Int32 × Int32 × (Nat → Int32)) : Option ((Int32 × Int32 × Int32 × (Nat → Int32)) ⊕ ((Int32 × Int32 × Int32 × (Nat → Int32)) ⊕ (Int32 × Int32 × (Nat → Int32)))) :=
  match st with
  | (x2, x3, x4, x5) => if p0_p ≤ x3 then some (.inr (.inl (x2, x3, x4, x5))) else (mX0_cubic N p0_p p0_a p0_b x3).bind (fun r11 => (mX3_manyAt N x4 x5 r11 p0_p).bind (fun r12 => match r12 with | (r15, u13, f14) => if (x2 + r15) ≤ a1 then mi_let (x2 + r15) (fun v17 => mi_let (x3 + 1) (fun v18 => some (.inl (v17, v18, u13, f14)))) else (mX3_lesserAt N u13 f14 p0_p p0_a p0_b x3).bind (fun r19 => match r19 with | (r22, u20, f21) => if a1 = x2 then some (.inr (.inr (r22, u20, f21))) else (mX0_opposite N p0_p r22).bind (fun r24 => some (.inr (.inr (r24, u20, f21)))))))
def mX3_pointNumber (N : Nat) (t_roots_prime : Int32) (t_roots_least : Nat → Int32) (p0_p : Int32) (p0_a : Int32) (p0_b : Int32) (a1 : Int32) : Option (Int32 × Int32 × (Nat → Int32)) := if 1 ≤ a1 then (mi_run (mX3_pointNumber_b12 N p0_p p0_a p0_b a1) N (1, 0, t_roots_prime, t_roots_least)).bind (fun o25 => match o25 with | .inl (y6, y7, y8, y9) => some ((-1), y8, y9) | .inr r26 => some r26) else some ((-1), t_roots_prime, t_roots_least)
abbrev rmX3_pointNumber : Room := { frames := 3, cells := 0, slots := 0, locals := 67 }
set_option maxHeartbeats 4000000 in
set_option maxRecDepth 100000 in
theorem ctX3_pointNumber (l : Launch) (N : Nat) (dC : Nat → ClassId) (dI : Nat → Nat → Nat) (sz : Nat) (h0 : Nat) (h0_roots : Nat) (h0_roots_least : Nat) (h1 : Nat) (h0_strides : Nat) (h0_halvesFound : Nat) (k_t_roots_least : ClassId) (t_roots_prime : Int32) (t_roots_least : Nat → Int32) (p0_p : Int32) (p0_a : Int32) (p0_b : Int32) (p0_from : Int32) (p0_kernelPoint : Int32) (p0_kernelOrder : Int32) (p0_points : Int32) (p0_inner : Int32) (p0_outer : Int32) (p0_makersFound : Int32) (p0_first : Int32) (p0_second : Int32) (a1 : Int32) (rr : Int32 × Int32 × (Nat → Int32)) (h : mX3_pointNumber N t_roots_prime t_roots_least p0_p p0_a p0_b a1 = some rr) : Met l yX3_pointNumber wsX3_pointNumber rmX3_pointNumber (va_Pc [.ref h0, .ref h1, .int a1] (fun U => U.heap.size = sz ∧ va_P (dC, dI) vwCl [(h0, .inr (3, [.ref h0_roots, .ref h0_strides, .ref h0_halvesFound])), (h0_roots, .inr (1, [.ref h0_roots_least, .int t_roots_prime])), (h0_roots_least, .inl (k_t_roots_least, 10007, .inl t_roots_least)), (h1, .inr (0, [.int p0_p, .int p0_a, .int p0_b, .int p0_from, .int p0_kernelPoint, .int p0_kernelOrder, .int p0_points, .int p0_inner, .int p0_outer, .int p0_makersFound, .int p0_first, .int p0_second]))] U.heap ∧ va_K (dC, dI) vwCl [(k_t_roots_least, .int)] U ∧ nw_all U ∧ va_D (fun _ => True) [(h0, .inr (3, [.ref h0_roots, .ref h0_strides, .ref h0_halvesFound])), (h0_roots, .inr (1, [.ref h0_roots_least, .int t_roots_prime])), (h0_roots_least, .inl (k_t_roots_least, 10007, .inl t_roots_least)), (h1, .inr (0, [.int p0_p, .int p0_a, .int p0_b, .int p0_from, .int p0_kernelPoint, .int p0_kernelOrder, .int p0_points, .int p0_inner, .int p0_outer, .int p0_makersFound, .int p0_first, .int p0_second]))])) (va_Qi (fun (r : Int32) (u : Int32 × (Nat → Int32)) => (r, u) = rr) (fun (u : Int32 × (Nat → Int32)) t => match u with | (u0, u1) => va_P (dC, dI) vwCl [(h0, .inr (3, [.ref h0_roots, .ref h0_strides, .ref h0_halvesFound])), (h0_roots, .inr (1, [.ref h0_roots_least, .int u0])), (h0_roots_least, .inl (k_t_roots_least, 10007, .inl u1)), (h1, .inr (0, [.int p0_p, .int p0_a, .int p0_b, .int p0_from, .int p0_kernelPoint, .int p0_kernelOrder, .int p0_points, .int p0_inner, .int p0_outer, .int p0_makersFound, .int p0_first, .int p0_second]))] t.heap ∧ va_K (dC, dI) vwCl [(k_t_roots_least, .int)] t ∧ va_D (va_A [(h0, .inr (3, [.ref h0_roots, .ref h0_strides, .ref h0_halvesFound])), (h0_roots, .inr (1, [.ref h0_roots_least, .int t_roots_prime])), (h0_roots_least, .inl (k_t_roots_least, 10007, .inl t_roots_least)), (h1, .inr (0, [.int p0_p, .int p0_a, .int p0_b, .int p0_from, .int p0_kernelPoint, .int p0_kernelOrder, .int p0_points, .int p0_inner, .int p0_outer, .int p0_makersFound, .int p0_first, .int p0_second]))] sz) [(h0, .inr (3, [.ref h0_roots, .ref h0_strides, .ref h0_halvesFound])), (h0_roots, .inr (1, [.ref h0_roots_least, .int u0])), (h0_roots_least, .inl (k_t_roots_least, 10007, .inl u1)), (h1, .inr (0, [.int p0_p, .int p0_a, .int p0_b, .int p0_from, .int p0_kernelPoint, .int p0_kernelOrder, .int p0_points, .int p0_inner, .int p0_outer, .int p0_makersFound, .int p0_first, .int p0_second]))]) (va_A [(h0, .inr (3, [.ref h0_roots, .ref h0_strides, .ref h0_halvesFound])), (h0_roots, .inr (1, [.ref h0_roots_least, .int t_roots_prime])), (h0_roots_least, .inl (k_t_roots_least, 10007, .inl t_roots_least)), (h1, .inr (0, [.int p0_p, .int p0_a, .int p0_b, .int p0_from, .int p0_kernelPoint, .int p0_kernelOrder, .int p0_points, .int p0_inner, .int p0_outer, .int p0_makersFound, .int p0_first, .int p0_second]))] sz)) 0 0 (va_A [(h0, .inr (3, [.ref h0_roots, .ref h0_strides, .ref h0_halvesFound])), (h0_roots, .inr (1, [.ref h0_roots_least, .int t_roots_prime])), (h0_roots_least, .inl (k_t_roots_least, 10007, .inl t_roots_least)), (h1, .inr (0, [.int p0_p, .int p0_a, .int p0_b, .int p0_from, .int p0_kernelPoint, .int p0_kernelOrder, .int p0_points, .int p0_inner, .int p0_outer, .int p0_makersFound, .int p0_first, .int p0_second]))] sz) := by
  refine Met.ofW (cc := cX3_pointNumber) (maxL := 7) (ret := (some .int)) (by decide) rfl ?_
  intro p e s m args below meth c s₁ B hml hv
  obtain ⟨rfl, hsz, hP, hK, hN, hD0⟩ := hv
  have hx := B.exec
  have hb := B.bytes
  have hr := B.returns
  have hts := atoms_spec (ws := wsX3_pointNumber) B.pre
  have hown : s.vm.findClass RX3 = some m.cls := findClass_of_methodNamed B.named
  have hlocks := B.notSynchronized
  subst hsz
  have hD := hD0.self (sz := s.heap.size)
  generalize hAe : va_A [(h0, .inr (3, [.ref h0_roots, .ref h0_strides, .ref h0_halvesFound])), (h0_roots, .inr (1, [.ref h0_roots_least, .int t_roots_prime])), (h0_roots_least, .inl (k_t_roots_least, 10007, .inl t_roots_least)), (h1, .inr (0, [.int p0_p, .int p0_a, .int p0_b, .int p0_from, .int p0_kernelPoint, .int p0_kernelOrder, .int p0_points, .int p0_inner, .int p0_outer, .int p0_makersFound, .int p0_first, .int p0_second]))] s.heap.size = A at hD ⊢
  have hA0 : ∀ q : Nat, s.heap.size ≤ q → A q := fun q h => by rw [← hAe]; exact Or.inr h
  have hS : va_S A s.heap s.heap [] := va_S.rf
  have hP : va_P (dC, dI) vwCl [(h0, .inr (3, [.ref h0_roots, .ref h0_strides, .ref h0_halvesFound])), (h0_roots, .inr (1, [.ref h0_roots_least, .int t_roots_prime])), (h0_roots_least, .inl (k_t_roots_least, 10007, .inl t_roots_least)), (h1, .inr (0, [.int p0_p, .int p0_a, .int p0_b, .int p0_from, .int p0_kernelPoint, .int p0_kernelOrder, .int p0_points, .int p0_inner, .int p0_outer, .int p0_makersFound, .int p0_first, .int p0_second]))] s.heap := hP
  have hl := lv_entry ([.ref h0, .ref h1, .int a1]) (n := 7) (Nat.le_of_ble_eq_true rfl)
  rw [lg_entry_eq]
  generalize (lg_sl ([.ref h0, .ref h1, .int a1]) ++ List.replicate (7 - (lg_sl ([.ref h0, .ref h1, .int a1])).length) Slot.unset).toArray = ls at hl ⊢
  have hl : lv_has ls 7 [(0, .ref h0), (1, .ref h1), (2, .int a1)] := hl
  dsimp only [mX3_pointNumber] at h
  refine lv_iload_n hx hb dX3_pointNumber_0 rfl (lv_at hl 2 rfl) ?_
  refine lv_iconst (v := 1) hx hb dX3_pointNumber_1 (by decide) ?_
  refine lv_icmp_ge (tgt := 7) hx hb dX3_pointNumber_2 (by decide) (fun c1 => ?_) (fun c1 => ?_)
  · replace h := (if_pos c1).symm.trans h
    refine lv_iconst (v := 1) hx hb dX3_pointNumber_7 (by decide) ?_
    refine lv_istore_n (lv' := [(3, .int 1), (0, .ref h0), (1, .ref h1), (2, .int a1)]) hx hb dX3_pointNumber_8 rfl hl (by decide) rfl (fun ls hl => ?_)
    refine lv_iconst (v := 0) hx hb dX3_pointNumber_9 (by decide) ?_
    refine lv_istore (lv' := [(4, .int 0), (3, .int 1), (0, .ref h0), (1, .ref h1), (2, .int a1)]) hx hb dX3_pointNumber_10 hl (by decide) rfl (fun ls hl => ?_)
    have L12 : ∀ (n : Nat) (x2 : Int32) (x3 : Int32) (x4 : Int32) (x5 : Nat → Int32) (o : (Int32 × Int32 × Int32 × (Nat → Int32)) ⊕ (Int32 × Int32 × (Nat → Int32))), mi_run (mX3_pointNumber_b12 N p0_p p0_a p0_b a1) n (x2, x3, x4, x5) = some o → (∀ (y6 : Int32) (y7 : Int32) (y8 : Int32) (y9 : Nat → Int32), o = .inl (y6, y7, y8, y9) → ∀ (H : Heap) (locs : List Loc) (ls : Array Slot), va_P (dC, dI) vwCl [(h0, .inr (3, [.ref h0_roots, .ref h0_strides, .ref h0_halvesFound])), (h0_roots, .inr (1, [.ref h0_roots_least, .int y8])), (h0_roots_least, .inl (k_t_roots_least, 10007, .inl y9)), (h1, .inr (0, [.int p0_p, .int p0_a, .int p0_b, .int p0_from, .int p0_kernelPoint, .int p0_kernelOrder, .int p0_points, .int p0_inner, .int p0_outer, .int p0_makersFound, .int p0_first, .int p0_second]))] H → va_D A [(h0, .inr (3, [.ref h0_roots, .ref h0_strides, .ref h0_halvesFound])), (h0_roots, .inr (1, [.ref h0_roots_least, .int y8])), (h0_roots_least, .inl (k_t_roots_least, 10007, .inl y9)), (h1, .inr (0, [.int p0_p, .int p0_a, .int p0_b, .int p0_from, .int p0_kernelPoint, .int p0_kernelOrder, .int p0_points, .int p0_inner, .int p0_outer, .int p0_makersFound, .int p0_first, .int p0_second]))] → va_S A s.heap H locs → lv_has ls 7 [(3, .int y6), (4, .int y7), (0, .ref h0), (1, .ref h1), (2, .int a1)] → W p l e (headSpec wsX3_pointNumber rmX3_pointNumber).room s m (([.ref h0, .ref h1, .int a1] : List Value).toArray) below meth c H locs 0 0 (MQ below (va_Qi (fun (r : Int32) (u : Int32 × (Nat → Int32)) => (r, u) = rr) (fun (u : Int32 × (Nat → Int32)) t => match u with | (u0, u1) => va_P (dC, dI) vwCl [(h0, .inr (3, [.ref h0_roots, .ref h0_strides, .ref h0_halvesFound])), (h0_roots, .inr (1, [.ref h0_roots_least, .int u0])), (h0_roots_least, .inl (k_t_roots_least, 10007, .inl u1)), (h1, .inr (0, [.int p0_p, .int p0_a, .int p0_b, .int p0_from, .int p0_kernelPoint, .int p0_kernelOrder, .int p0_points, .int p0_inner, .int p0_outer, .int p0_makersFound, .int p0_first, .int p0_second]))] t.heap ∧ va_K (dC, dI) vwCl [(k_t_roots_least, .int)] t ∧ va_D (A) [(h0, .inr (3, [.ref h0_roots, .ref h0_strides, .ref h0_halvesFound])), (h0_roots, .inr (1, [.ref h0_roots_least, .int u0])), (h0_roots_least, .inl (k_t_roots_least, 10007, .inl u1)), (h1, .inr (0, [.int p0_p, .int p0_a, .int p0_b, .int p0_from, .int p0_kernelPoint, .int p0_kernelOrder, .int p0_points, .int p0_inner, .int p0_outer, .int p0_makersFound, .int p0_first, .int p0_second]))]) (A)) (([.ref h0, .ref h1, .int a1] : List Value).toArray) s 0 0 A) (F0 m 82 ls [])) → (∀ v : Int32 × Int32 × (Nat → Int32), o = .inr v → v = rr) → ∀ (H : Heap) (locs : List Loc) (ls : Array Slot), va_P (dC, dI) vwCl [(h0, .inr (3, [.ref h0_roots, .ref h0_strides, .ref h0_halvesFound])), (h0_roots, .inr (1, [.ref h0_roots_least, .int x4])), (h0_roots_least, .inl (k_t_roots_least, 10007, .inl x5)), (h1, .inr (0, [.int p0_p, .int p0_a, .int p0_b, .int p0_from, .int p0_kernelPoint, .int p0_kernelOrder, .int p0_points, .int p0_inner, .int p0_outer, .int p0_makersFound, .int p0_first, .int p0_second]))] H → va_D A [(h0, .inr (3, [.ref h0_roots, .ref h0_strides, .ref h0_halvesFound])), (h0_roots, .inr (1, [.ref h0_roots_least, .int x4])), (h0_roots_least, .inl (k_t_roots_least, 10007, .inl x5)), (h1, .inr (0, [.int p0_p, .int p0_a, .int p0_b, .int p0_from, .int p0_kernelPoint, .int p0_kernelOrder, .int p0_points, .int p0_inner, .int p0_outer, .int p0_makersFound, .int p0_first, .int p0_second]))] → va_S A s.heap H locs → lv_has ls 7 [(3, .int x2), (4, .int x3), (0, .ref h0), (1, .ref h1), (2, .int a1)] → W p l e (headSpec wsX3_pointNumber rmX3_pointNumber).room s m (([.ref h0, .ref h1, .int a1] : List Value).toArray) below meth c H locs 0 0 (MQ below (va_Qi (fun (r : Int32) (u : Int32 × (Nat → Int32)) => (r, u) = rr) (fun (u : Int32 × (Nat → Int32)) t => match u with | (u0, u1) => va_P (dC, dI) vwCl [(h0, .inr (3, [.ref h0_roots, .ref h0_strides, .ref h0_halvesFound])), (h0_roots, .inr (1, [.ref h0_roots_least, .int u0])), (h0_roots_least, .inl (k_t_roots_least, 10007, .inl u1)), (h1, .inr (0, [.int p0_p, .int p0_a, .int p0_b, .int p0_from, .int p0_kernelPoint, .int p0_kernelOrder, .int p0_points, .int p0_inner, .int p0_outer, .int p0_makersFound, .int p0_first, .int p0_second]))] t.heap ∧ va_K (dC, dI) vwCl [(k_t_roots_least, .int)] t ∧ va_D (A) [(h0, .inr (3, [.ref h0_roots, .ref h0_strides, .ref h0_halvesFound])), (h0_roots, .inr (1, [.ref h0_roots_least, .int u0])), (h0_roots_least, .inl (k_t_roots_least, 10007, .inl u1)), (h1, .inr (0, [.int p0_p, .int p0_a, .int p0_b, .int p0_from, .int p0_kernelPoint, .int p0_kernelOrder, .int p0_points, .int p0_inner, .int p0_outer, .int p0_makersFound, .int p0_first, .int p0_second]))]) (A)) (([.ref h0, .ref h1, .int a1] : List Value).toArray) s 0 0 A) (F0 m 12 ls []) := by
      intro n
      induction n with
      | zero => intro x2 x3 x4 x5 o h; exact absurd h (mi_run_0 _ _ _)
      | succ n ih =>
        intro x2 x3 x4 x5 o h hkE hkR H locs ls hP hD hS hl
        obtain ⟨w, h, hA, hB⟩ := mi_run_s h
        dsimp only [mX3_pointNumber_b12] at h
        refine lv_iload hx hb dX3_pointNumber_12 (lv_at hl 1 rfl) ?_
        refine lv_aload_n hx hb dX3_pointNumber_14 rfl (lv_at hl 3 rfl) ?_
        refine va_get (D := (dC, dI)) (ci := 0) (v := .int p0_p) (C := RX0) (T := TX0) (N := 12) hx hb hts (by decide +kernel) hown hK hP 3 rfl rfl 0 (by decide) (hts (.fieldLink RX3 39 "PointRings$Curve" "p" "I") (by decide +kernel)) (fun _ h9 => h9) rfl dX3_pointNumber_15 ?_
        refine lv_icmp_ge (tgt := 82) hx hb dX3_pointNumber_18 (by decide) (fun c10 => ?_) (fun c10 => ?_)
        · replace h := (if_pos c10).symm.trans h
          exact hkE _ _ _ _ (hB _ (Option.some.inj h).symm) _ _ ls hP hD hS (lv_sub hl [0, 1, 2, 3, 4] rfl)
        · replace h := (if_neg c10).symm.trans h
          refine lv_aload_n hx hb dX3_pointNumber_21 rfl (lv_at hl 2 rfl) ?_
          refine lv_aload_n hx hb dX3_pointNumber_22 rfl (lv_at hl 3 rfl) ?_
          refine lv_iload hx hb dX3_pointNumber_23 (lv_at hl 1 rfl) ?_
          obtain ⟨r11, hr11, h⟩ := Option.bind_eq_some_iff.mp h
          have hPc := hP.sub (ws' := [(h1, .inr (0, [.int p0_p, .int p0_a, .int p0_b, .int p0_from, .int p0_kernelPoint, .int p0_kernelOrder, .int p0_points, .int p0_inner, .int p0_outer, .int p0_makersFound, .int p0_first, .int p0_second]))]) [3] rfl
          have hKc := hK.sub (tys' := []) [] rfl
          refine vp_callSi (W.runV (As := [.int x3]) (rest := [.ref h0]) ⟨hx, hb, hml, hown, hts⟩ (ctX0_cubic l N dC dI  h1 p0_p p0_a p0_b p0_from p0_kernelPoint p0_kernelOrder p0_points p0_inner p0_outer p0_makersFound p0_first p0_second x3 r11 hr11) (cwV 1 hts gX3_pointNumber_X0_cubic rfl rfl rfl (by decide +kernel) ⟨Nat.le_of_ble_eq_true rfl, Nat.le_of_ble_eq_true rfl⟩) ⟨fun a U g mk q => by obtain ⟨q0, qP, qK, qN⟩ := q; exact ⟨q0, qP, va_K.moved (u := U) (U := U.calling g mk a) (Vm.Alike.refl U.vm) qK, nw_same (u := U) (U := U.calling g mk a) rfl qN⟩, va_recv hKc hPc (ci := 0) (q0 := 0) rfl rfl, fun U hU hW => ⟨rfl, by rw [hU]; exact hPc, va_K.moved hW.alike hKc, nw_warm hW hN⟩⟩ rfl rfl hl.1 rfl (lv_room (Nat.le_of_ble_eq_true rfl)) dX3_pointNumber_25 ⟨Nat.le_of_ble_eq_true rfl, Nat.le_of_ble_eq_true rfl⟩) (fun q9 eq9 => ?_)
          subst q9
          refine lv_aload_n hx hb dX3_pointNumber_28 rfl (lv_at hl 3 rfl) ?_
          refine va_get (D := (dC, dI)) (ci := 0) (v := .int p0_p) (C := RX0) (T := TX0) (N := 12) hx hb hts (by decide +kernel) hown hK hP 3 rfl rfl 0 (by decide) (hts (.fieldLink RX3 39 "PointRings$Curve" "p" "I") (by decide +kernel)) (fun _ h9 => h9) rfl dX3_pointNumber_29 ?_
          obtain ⟨r12, hr12, h⟩ := Option.bind_eq_some_iff.mp h
          have hPc := hP.sub (ws' := [(h0, .inr (3, [.ref h0_roots, .ref h0_strides, .ref h0_halvesFound])), (h0_roots, .inr (1, [.ref h0_roots_least, .int x4])), (h0_roots_least, .inl (k_t_roots_least, 10007, .inl x5))]) [0, 1, 2] rfl
          have hDc := hD.sub (ws' := [(h0, .inr (3, [.ref h0_roots, .ref h0_strides, .ref h0_halvesFound])), (h0_roots, .inr (1, [.ref h0_roots_least, .int x4])), (h0_roots_least, .inl (k_t_roots_least, 10007, .inl x5))]) [0, 1, 2] (by decide) rfl
          have hKc := hK.sub (tys' := [(k_t_roots_least, .int)]) [0] rfl
          have hFc := va_free (wc := [(h0, .inr (3, [.ref h0_roots, .ref h0_strides, .ref h0_halvesFound])), (h0_roots, .inr (1, [.ref h0_roots_least, .int x4])), (h0_roots_least, .inl (k_t_roots_least, 10007, .inl x5))]) hD hS hA0 [0, 1, 2] rfl
          refine va_calli (va_runV (As := [.int r11, .int p0_p]) (rest := []) ⟨hx, hb, hml, hown, hts⟩ (ctX3_manyAt l N dC dI _ h0 h0_roots h0_roots_least h0_strides h0_halvesFound k_t_roots_least x4 x5 r11 p0_p r12 hr12) (cwV 2 hts gX3_pointNumber_X3_manyAt rfl rfl rfl (by decide +kernel) ⟨Nat.le_of_ble_eq_true rfl, Nat.le_of_ble_eq_true rfl⟩) ⟨fun a U g mk q => by obtain ⟨q0, q1, qP, qK, qN, qD⟩ := q; exact ⟨q0, q1, qP, va_K.moved (u := U) (U := U.calling g mk a) (Vm.Alike.refl U.vm) qK, nw_same (u := U) (U := U.calling g mk a) rfl qN, qD⟩, va_recv hKc hPc (ci := 3) (q0 := 0) rfl rfl, fun U hU hW => ⟨rfl, by rw [hU], by rw [hU]; exact hPc, va_K.moved hW.alike hKc, nw_warm hW hN, hDc.weaken (fun _ _ _ _ => trivial)⟩⟩ rfl rfl hl.1 rfl (lv_room (Nat.le_of_ble_eq_true rfl)) dX3_pointNumber_32 ⟨Nat.le_of_ble_eq_true rfl, Nat.le_of_ble_eq_true rfl⟩) hS (fun q _ h => hFc q h) hFc (fun rz u t H1 locs ht hvm hw hB1 hz1 hk1 hS => ?_)
          obtain ⟨u13, f14⟩ := u
          obtain ⟨hP1, hK1, hD1⟩ := hB1
          rw [ht] at hP1
          have hK1 := va_K.moved hvm.symm hK1
          obtain ⟨r15, rfl⟩ : ∃ z, z = rz := ⟨_, rfl⟩
          subst hw
          try dsimp only at h
          obtain ⟨hP, hD⟩ := va_join (wr := [(h1, .inr (0, [.int p0_p, .int p0_a, .int p0_b, .int p0_from, .int p0_kernelPoint, .int p0_kernelOrder, .int p0_points, .int p0_inner, .int p0_outer, .int p0_makersFound, .int p0_first, .int p0_second]))]) (w1 := [(h0, .inr (3, [.ref h0_roots, .ref h0_strides, .ref h0_halvesFound])), (h0_roots, .inr (1, [.ref h0_roots_least, .int u13])), (h0_roots_least, .inl (k_t_roots_least, 10007, .inl f14))]) hP hD [0, 1, 2] [3] rfl rfl (by decide) (by decide) hk1 hFc hP1 hD1
          generalize H1 = H at hP hS ⊢
          have hP := hP.sub (ws' := [(h0, .inr (3, [.ref h0_roots, .ref h0_strides, .ref h0_halvesFound])), (h0_roots, .inr (1, [.ref h0_roots_least, .int u13])), (h0_roots_least, .inl (k_t_roots_least, 10007, .inl f14)), (h1, .inr (0, [.int p0_p, .int p0_a, .int p0_b, .int p0_from, .int p0_kernelPoint, .int p0_kernelOrder, .int p0_points, .int p0_inner, .int p0_outer, .int p0_makersFound, .int p0_first, .int p0_second]))]) [1, 2, 3, 0] rfl
          have hD := hD.sub (ws' := [(h0, .inr (3, [.ref h0_roots, .ref h0_strides, .ref h0_halvesFound])), (h0_roots, .inr (1, [.ref h0_roots_least, .int u13])), (h0_roots_least, .inl (k_t_roots_least, 10007, .inl f14)), (h1, .inr (0, [.int p0_p, .int p0_a, .int p0_b, .int p0_from, .int p0_kernelPoint, .int p0_kernelOrder, .int p0_points, .int p0_inner, .int p0_outer, .int p0_makersFound, .int p0_first, .int p0_second]))]) [1, 2, 3, 0] (by decide) rfl
          refine lv_istore (lv' := [(5, .int r15), (3, .int x2), (4, .int x3), (0, .ref h0), (1, .ref h1), (2, .int a1)]) hx hb dX3_pointNumber_35 hl (by decide) rfl (fun ls hl => ?_)
          refine lv_iload_n hx hb dX3_pointNumber_37 rfl (lv_at hl 5 rfl) ?_
          refine lv_iload_n hx hb dX3_pointNumber_38 rfl (lv_at hl 1 rfl) ?_
          refine lv_iload hx hb dX3_pointNumber_39 (lv_at hl 0 rfl) ?_
          refine lv_iadd hx hb dX3_pointNumber_41 ?_
          refine lv_icmp_ge (tgt := 71) hx hb dX3_pointNumber_42 (by decide) (fun c16 => ?_) (fun c16 => ?_)
          · replace h := (if_pos c16).symm.trans h
            refine lv_iload_n hx hb dX3_pointNumber_71 rfl (lv_at hl 1 rfl) ?_
            refine lv_iload hx hb dX3_pointNumber_72 (lv_at hl 0 rfl) ?_
            refine lv_iadd hx hb dX3_pointNumber_74 ?_
            refine lv_topi (fun v17 ev17 => ?_)
            replace h := mi_use ev17 h
            refine lv_istore_n (lv' := [(3, .int v17), (5, .int r15), (4, .int x3), (0, .ref h0), (1, .ref h1), (2, .int a1)]) hx hb dX3_pointNumber_75 rfl hl (by decide) rfl (fun ls hl => ?_)
            obtain ⟨v18, ev18⟩ : ∃ z : Int32, z = x3 + 1 := ⟨_, rfl⟩
            refine lv_iinc (v := v18) (lv' := [(4, .int v18), (3, .int v17), (5, .int r15), (0, .ref h0), (1, .ref h1), (2, .int a1)]) hx hb dX3_pointNumber_76 hl (k := 2) rfl (by rw [ev18]; rfl) (by decide) rfl (fun ls hl => ?_)
            replace h := mi_use ev18 h
            refine lv_goto (tgt := 12) hx hb dX3_pointNumber_79 (by decide) ?_
            exact ih _ _ _ _ _ (hA _ (Option.some.inj h).symm) hkE hkR _ _ ls hP hD hS (lv_sub hl [1, 0, 3, 4, 5] rfl)
          · replace h := (if_neg c16).symm.trans h
            refine lv_aload_n hx hb dX3_pointNumber_45 rfl (lv_at hl 3 rfl) ?_
            refine lv_aload_n hx hb dX3_pointNumber_46 rfl (lv_at hl 4 rfl) ?_
            refine lv_iload hx hb dX3_pointNumber_47 (lv_at hl 2 rfl) ?_
            obtain ⟨r19, hr19, h⟩ := Option.bind_eq_some_iff.mp h
            have hPc := hP.sub (ws' := [(h0, .inr (3, [.ref h0_roots, .ref h0_strides, .ref h0_halvesFound])), (h0_roots, .inr (1, [.ref h0_roots_least, .int u13])), (h0_roots_least, .inl (k_t_roots_least, 10007, .inl f14)), (h1, .inr (0, [.int p0_p, .int p0_a, .int p0_b, .int p0_from, .int p0_kernelPoint, .int p0_kernelOrder, .int p0_points, .int p0_inner, .int p0_outer, .int p0_makersFound, .int p0_first, .int p0_second]))]) [0, 1, 2, 3] rfl
            have hDc := hD.sub (ws' := [(h0, .inr (3, [.ref h0_roots, .ref h0_strides, .ref h0_halvesFound])), (h0_roots, .inr (1, [.ref h0_roots_least, .int u13])), (h0_roots_least, .inl (k_t_roots_least, 10007, .inl f14)), (h1, .inr (0, [.int p0_p, .int p0_a, .int p0_b, .int p0_from, .int p0_kernelPoint, .int p0_kernelOrder, .int p0_points, .int p0_inner, .int p0_outer, .int p0_makersFound, .int p0_first, .int p0_second]))]) [0, 1, 2, 3] (by decide) rfl
            have hKc := hK.sub (tys' := [(k_t_roots_least, .int)]) [0] rfl
            have hFc := va_free (wc := [(h0, .inr (3, [.ref h0_roots, .ref h0_strides, .ref h0_halvesFound])), (h0_roots, .inr (1, [.ref h0_roots_least, .int u13])), (h0_roots_least, .inl (k_t_roots_least, 10007, .inl f14)), (h1, .inr (0, [.int p0_p, .int p0_a, .int p0_b, .int p0_from, .int p0_kernelPoint, .int p0_kernelOrder, .int p0_points, .int p0_inner, .int p0_outer, .int p0_makersFound, .int p0_first, .int p0_second]))]) hD hS hA0 [0, 1, 2, 3] rfl
            refine va_calli (va_runV (As := [.ref h1, .int x3]) (rest := []) ⟨hx, hb, hml, hown, hts⟩ (ctX3_lesserAt l N dC dI _ h0 h0_roots h0_roots_least h1 h0_strides h0_halvesFound k_t_roots_least u13 f14 p0_p p0_a p0_b p0_from p0_kernelPoint p0_kernelOrder p0_points p0_inner p0_outer p0_makersFound p0_first p0_second x3 r19 hr19) (cwV 2 hts gX3_pointNumber_X3_lesserAt rfl rfl rfl (by decide +kernel) ⟨Nat.le_of_ble_eq_true rfl, Nat.le_of_ble_eq_true rfl⟩) ⟨fun a U g mk q => by obtain ⟨q0, q1, qP, qK, qN, qD⟩ := q; exact ⟨q0, q1, qP, va_K.moved (u := U) (U := U.calling g mk a) (Vm.Alike.refl U.vm) qK, nw_same (u := U) (U := U.calling g mk a) rfl qN, qD⟩, va_recv hKc hPc (ci := 3) (q0 := 0) rfl rfl, fun U hU hW => ⟨rfl, by rw [hU], by rw [hU]; exact hPc, va_K.moved hW.alike hKc, nw_warm hW hN, hDc.weaken (fun _ _ _ _ => trivial)⟩⟩ rfl rfl hl.1 rfl (lv_room (Nat.le_of_ble_eq_true rfl)) dX3_pointNumber_49 ⟨Nat.le_of_ble_eq_true rfl, Nat.le_of_ble_eq_true rfl⟩) hS (fun q _ h => hFc q h) hFc (fun rz u t H1 locs ht hvm hw hB1 hz1 hk1 hS => ?_)
            obtain ⟨u20, f21⟩ := u
            obtain ⟨hP1, hK1, hD1⟩ := hB1
            rw [ht] at hP1
            have hK1 := va_K.moved hvm.symm hK1
            obtain ⟨r22, rfl⟩ : ∃ z, z = rz := ⟨_, rfl⟩
            subst hw
            try dsimp only at h
            obtain ⟨hP, hD⟩ := va_join (wr := []) (w1 := [(h0, .inr (3, [.ref h0_roots, .ref h0_strides, .ref h0_halvesFound])), (h0_roots, .inr (1, [.ref h0_roots_least, .int u20])), (h0_roots_least, .inl (k_t_roots_least, 10007, .inl f21)), (h1, .inr (0, [.int p0_p, .int p0_a, .int p0_b, .int p0_from, .int p0_kernelPoint, .int p0_kernelOrder, .int p0_points, .int p0_inner, .int p0_outer, .int p0_makersFound, .int p0_first, .int p0_second]))]) hP hD [0, 1, 2, 3] [] rfl rfl (by decide) (by decide) hk1 hFc hP1 hD1
            generalize H1 = H at hP hS ⊢
            have hP := hP.sub (ws' := [(h0, .inr (3, [.ref h0_roots, .ref h0_strides, .ref h0_halvesFound])), (h0_roots, .inr (1, [.ref h0_roots_least, .int u20])), (h0_roots_least, .inl (k_t_roots_least, 10007, .inl f21)), (h1, .inr (0, [.int p0_p, .int p0_a, .int p0_b, .int p0_from, .int p0_kernelPoint, .int p0_kernelOrder, .int p0_points, .int p0_inner, .int p0_outer, .int p0_makersFound, .int p0_first, .int p0_second]))]) [0, 1, 2, 3] rfl
            have hD := hD.sub (ws' := [(h0, .inr (3, [.ref h0_roots, .ref h0_strides, .ref h0_halvesFound])), (h0_roots, .inr (1, [.ref h0_roots_least, .int u20])), (h0_roots_least, .inl (k_t_roots_least, 10007, .inl f21)), (h1, .inr (0, [.int p0_p, .int p0_a, .int p0_b, .int p0_from, .int p0_kernelPoint, .int p0_kernelOrder, .int p0_points, .int p0_inner, .int p0_outer, .int p0_makersFound, .int p0_first, .int p0_second]))]) [0, 1, 2, 3] (by decide) rfl
            refine lv_istore (lv' := [(6, .int r22), (5, .int r15), (3, .int x2), (4, .int x3), (0, .ref h0), (1, .ref h1), (2, .int a1)]) hx hb dX3_pointNumber_52 hl (by decide) rfl (fun ls hl => ?_)
            refine lv_iload_n hx hb dX3_pointNumber_54 rfl (lv_at hl 6 rfl) ?_
            refine lv_iload_n hx hb dX3_pointNumber_55 rfl (lv_at hl 2 rfl) ?_
            refine lv_icmp_ne (tgt := 64) hx hb dX3_pointNumber_56 (by decide) (fun c23 => ?_) (fun c23 => ?_)
            · replace h := (if_neg c23).symm.trans h
              refine lv_aload_n hx hb dX3_pointNumber_64 rfl (lv_at hl 5 rfl) ?_
              refine lv_iload hx hb dX3_pointNumber_65 (lv_at hl 0 rfl) ?_
              obtain ⟨r24, hr24, h⟩ := Option.bind_eq_some_iff.mp h
              have hPc := hP.sub (ws' := [(h1, .inr (0, [.int p0_p, .int p0_a, .int p0_b, .int p0_from, .int p0_kernelPoint, .int p0_kernelOrder, .int p0_points, .int p0_inner, .int p0_outer, .int p0_makersFound, .int p0_first, .int p0_second]))]) [3] rfl
              have hKc := hK.sub (tys' := []) [] rfl
              refine vp_callSi (W.runV (As := [.int r22]) (rest := []) ⟨hx, hb, hml, hown, hts⟩ (ctX0_opposite l N dC dI  h1 p0_p p0_a p0_b p0_from p0_kernelPoint p0_kernelOrder p0_points p0_inner p0_outer p0_makersFound p0_first p0_second r22 r24 hr24) (cwV 1 hts gX3_pointNumber_X0_opposite rfl rfl rfl (by decide +kernel) ⟨Nat.le_of_ble_eq_true rfl, Nat.le_of_ble_eq_true rfl⟩) ⟨fun a U g mk q => by obtain ⟨q0, qP, qK, qN⟩ := q; exact ⟨q0, qP, va_K.moved (u := U) (U := U.calling g mk a) (Vm.Alike.refl U.vm) qK, nw_same (u := U) (U := U.calling g mk a) rfl qN⟩, va_recv hKc hPc (ci := 0) (q0 := 0) rfl rfl, fun U hU hW => ⟨rfl, by rw [hU]; exact hPc, va_K.moved hW.alike hKc, nw_warm hW hN⟩⟩ rfl rfl hl.1 rfl (lv_room (Nat.le_of_ble_eq_true rfl)) dX3_pointNumber_67 ⟨Nat.le_of_ble_eq_true rfl, Nat.le_of_ble_eq_true rfl⟩) (fun q9 eq9 => ?_)
              subst q9
              have hv : (r24, u20, f21) = rr := hkR _ (hB _ (Option.some.inj h).symm)
              have hP9 := hP.sub (ws' := [(h0, .inr (3, [.ref h0_roots, .ref h0_strides, .ref h0_halvesFound])), (h0_roots, .inr (1, [.ref h0_roots_least, .int u20])), (h0_roots_least, .inl (k_t_roots_least, 10007, .inl f21)), (h1, .inr (0, [.int p0_p, .int p0_a, .int p0_b, .int p0_from, .int p0_kernelPoint, .int p0_kernelOrder, .int p0_points, .int p0_inner, .int p0_outer, .int p0_makersFound, .int p0_first, .int p0_second]))]) [0, 1, 2, 3] rfl
              have hD9 := hD.sub (ws' := [(h0, .inr (3, [.ref h0_roots, .ref h0_strides, .ref h0_halvesFound])), (h0_roots, .inr (1, [.ref h0_roots_least, .int u20])), (h0_roots_least, .inl (k_t_roots_least, 10007, .inl f21)), (h1, .inr (0, [.int p0_p, .int p0_a, .int p0_b, .int p0_from, .int p0_kernelPoint, .int p0_kernelOrder, .int p0_points, .int p0_inner, .int p0_outer, .int p0_makersFound, .int p0_first, .int p0_second]))]) [0, 1, 2, 3] (by decide) rfl
              have hK9 := hK.sub (tys' := [(k_t_roots_least, .int)]) [0] rfl
              exact W.iret (v := r24) hx hb hr (fun t ht hW => ⟨⟨r24, (u20, f21), rfl, hv, by rw [ht]; exact hP9, va_K.moved hW.alike hK9, hD9⟩, hS.F ht⟩) hS.2.2 dX3_pointNumber_70
            · replace h := (if_pos c23).symm.trans h
              refine lv_iload hx hb dX3_pointNumber_59 (lv_at hl 0 rfl) ?_
              refine lv_goto (tgt := 70) hx hb dX3_pointNumber_61 (by decide) ?_
              have hv : (r22, u20, f21) = rr := hkR _ (hB _ (Option.some.inj h).symm)
              have hP9 := hP.sub (ws' := [(h0, .inr (3, [.ref h0_roots, .ref h0_strides, .ref h0_halvesFound])), (h0_roots, .inr (1, [.ref h0_roots_least, .int u20])), (h0_roots_least, .inl (k_t_roots_least, 10007, .inl f21)), (h1, .inr (0, [.int p0_p, .int p0_a, .int p0_b, .int p0_from, .int p0_kernelPoint, .int p0_kernelOrder, .int p0_points, .int p0_inner, .int p0_outer, .int p0_makersFound, .int p0_first, .int p0_second]))]) [0, 1, 2, 3] rfl
              have hD9 := hD.sub (ws' := [(h0, .inr (3, [.ref h0_roots, .ref h0_strides, .ref h0_halvesFound])), (h0_roots, .inr (1, [.ref h0_roots_least, .int u20])), (h0_roots_least, .inl (k_t_roots_least, 10007, .inl f21)), (h1, .inr (0, [.int p0_p, .int p0_a, .int p0_b, .int p0_from, .int p0_kernelPoint, .int p0_kernelOrder, .int p0_points, .int p0_inner, .int p0_outer, .int p0_makersFound, .int p0_first, .int p0_second]))]) [0, 1, 2, 3] (by decide) rfl
              have hK9 := hK.sub (tys' := [(k_t_roots_least, .int)]) [0] rfl
              exact W.iret (v := r22) hx hb hr (fun t ht hW => ⟨⟨r22, (u20, f21), rfl, hv, by rw [ht]; exact hP9, va_K.moved hW.alike hK9, hD9⟩, hS.F ht⟩) hS.2.2 dX3_pointNumber_70
    obtain ⟨o25, ho25, h⟩ := Option.bind_eq_some_iff.mp h
    refine L12 N _ _ _ _ o25 ho25 ?_ ?_ _ _ ls hP hD hS (lv_sub hl [1, 0, 2, 3, 4] rfl)
    · intro y6 y7 y8 y9 eo H locs ls hP hD hS hl
      subst eo
      try dsimp only at h
      refine lv_iconst (v := (-1)) hx hb dX3_pointNumber_82 (by decide) ?_
      have hv : ((-1), y8, y9) = rr := Option.some.inj h
      have hP9 := hP.sub (ws' := [(h0, .inr (3, [.ref h0_roots, .ref h0_strides, .ref h0_halvesFound])), (h0_roots, .inr (1, [.ref h0_roots_least, .int y8])), (h0_roots_least, .inl (k_t_roots_least, 10007, .inl y9)), (h1, .inr (0, [.int p0_p, .int p0_a, .int p0_b, .int p0_from, .int p0_kernelPoint, .int p0_kernelOrder, .int p0_points, .int p0_inner, .int p0_outer, .int p0_makersFound, .int p0_first, .int p0_second]))]) [0, 1, 2, 3] rfl
      have hD9 := hD.sub (ws' := [(h0, .inr (3, [.ref h0_roots, .ref h0_strides, .ref h0_halvesFound])), (h0_roots, .inr (1, [.ref h0_roots_least, .int y8])), (h0_roots_least, .inl (k_t_roots_least, 10007, .inl y9)), (h1, .inr (0, [.int p0_p, .int p0_a, .int p0_b, .int p0_from, .int p0_kernelPoint, .int p0_kernelOrder, .int p0_points, .int p0_inner, .int p0_outer, .int p0_makersFound, .int p0_first, .int p0_second]))]) [0, 1, 2, 3] (by decide) rfl
      have hK9 := hK.sub (tys' := [(k_t_roots_least, .int)]) [0] rfl
      exact W.iret (v := (-1)) hx hb hr (fun t ht hW => ⟨⟨(-1), (y8, y9), rfl, hv, by rw [ht]; exact hP9, va_K.moved hW.alike hK9, hD9⟩, hS.F ht⟩) hS.2.2 dX3_pointNumber_83
    · intro r26 eo
      subst eo
      try dsimp only at h
      exact Option.some.inj h
  · replace h := (if_neg c1).symm.trans h
    refine lv_iconst (v := (-1)) hx hb dX3_pointNumber_5 (by decide) ?_
    have hv : ((-1), t_roots_prime, t_roots_least) = rr := Option.some.inj h
    have hP9 := hP.sub (ws' := [(h0, .inr (3, [.ref h0_roots, .ref h0_strides, .ref h0_halvesFound])), (h0_roots, .inr (1, [.ref h0_roots_least, .int t_roots_prime])), (h0_roots_least, .inl (k_t_roots_least, 10007, .inl t_roots_least)), (h1, .inr (0, [.int p0_p, .int p0_a, .int p0_b, .int p0_from, .int p0_kernelPoint, .int p0_kernelOrder, .int p0_points, .int p0_inner, .int p0_outer, .int p0_makersFound, .int p0_first, .int p0_second]))]) [0, 1, 2, 3] rfl
    have hD9 := hD.sub (ws' := [(h0, .inr (3, [.ref h0_roots, .ref h0_strides, .ref h0_halvesFound])), (h0_roots, .inr (1, [.ref h0_roots_least, .int t_roots_prime])), (h0_roots_least, .inl (k_t_roots_least, 10007, .inl t_roots_least)), (h1, .inr (0, [.int p0_p, .int p0_a, .int p0_b, .int p0_from, .int p0_kernelPoint, .int p0_kernelOrder, .int p0_points, .int p0_inner, .int p0_outer, .int p0_makersFound, .int p0_first, .int p0_second]))]) [0, 1, 2, 3] (by decide) rfl
    have hK9 := hK.sub (tys' := [(k_t_roots_least, .int)]) [0] rfl
    exact W.iret (v := (-1)) hx hb hr (fun t ht hW => ⟨⟨(-1), (t_roots_prime, t_roots_least), rfl, hv, by rw [ht]; exact hP9, va_K.moved hW.alike hK9, hD9⟩, hS.F ht⟩) hS.2.2 dX3_pointNumber_6
def mX3_pointsAhead_b5 (N : Nat) (a1 : Int32) (p0_p : Int32) (p0_a : Int32) (p0_b : Int32) (st : Int32 × Int32 × Int32 × (Nat → Int32)) : Option ((Int32 × Int32 × Int32 × (Nat → Int32)) ⊕ (Int32 × Int32 × Int32 × (Nat → Int32))) :=
  match st with
  | (x1, x2, x3, x4) => (mX5_xOf N a1).bind (fun r9 => if r9 ≤ x2 then some (.inr (x1, x2, x3, x4)) else (mX0_cubic N p0_p p0_a p0_b x2).bind (fun r11 => (mX3_manyAt N x3 x4 r11 p0_p).bind (fun r12 => match r12 with | (r15, u13, f14) => mi_let (x1 + r15) (fun v16 => mi_let (x2 + 1) (fun v17 => some (.inl (v16, v17, u13, f14)))))))
def mX3_pointsAhead (N : Nat) (t_roots_prime : Int32) (t_roots_least : Nat → Int32) (p0_p : Int32) (p0_a : Int32) (p0_b : Int32) (a1 : Int32) : Option (Int32 × Int32 × (Nat → Int32)) := (mi_run (mX3_pointsAhead_b5 N a1 p0_p p0_a p0_b) N (1, 0, t_roots_prime, t_roots_least)).bind (fun o18 => match o18 with | (y5, y6, y7, y8) => (mX5_xOf N a1).bind (fun r19 => (mX3_lesserAt N y7 y8 p0_p p0_a p0_b r19).bind (fun r20 => match r20 with | (r23, u21, f22) => if r23 = a1 then some (y5, u21, f22) else some (y5 + 1, u21, f22))))
abbrev rmX3_pointsAhead : Room := { frames := 3, cells := 0, slots := 0, locals := 67 }
set_option maxHeartbeats 4000000 in
set_option maxRecDepth 100000 in
theorem ctX3_pointsAhead (l : Launch) (N : Nat) (dC : Nat → ClassId) (dI : Nat → Nat → Nat) (sz : Nat) (h0 : Nat) (h0_roots : Nat) (h0_roots_least : Nat) (h1 : Nat) (h0_strides : Nat) (h0_halvesFound : Nat) (k_t_roots_least : ClassId) (t_roots_prime : Int32) (t_roots_least : Nat → Int32) (p0_p : Int32) (p0_a : Int32) (p0_b : Int32) (p0_from : Int32) (p0_kernelPoint : Int32) (p0_kernelOrder : Int32) (p0_points : Int32) (p0_inner : Int32) (p0_outer : Int32) (p0_makersFound : Int32) (p0_first : Int32) (p0_second : Int32) (a1 : Int32) (rr : Int32 × Int32 × (Nat → Int32)) (h : mX3_pointsAhead N t_roots_prime t_roots_least p0_p p0_a p0_b a1 = some rr) : Met l yX3_pointsAhead wsX3_pointsAhead rmX3_pointsAhead (va_Pc [.ref h0, .ref h1, .int a1] (fun U => U.heap.size = sz ∧ va_P (dC, dI) vwCl [(h0, .inr (3, [.ref h0_roots, .ref h0_strides, .ref h0_halvesFound])), (h0_roots, .inr (1, [.ref h0_roots_least, .int t_roots_prime])), (h0_roots_least, .inl (k_t_roots_least, 10007, .inl t_roots_least)), (h1, .inr (0, [.int p0_p, .int p0_a, .int p0_b, .int p0_from, .int p0_kernelPoint, .int p0_kernelOrder, .int p0_points, .int p0_inner, .int p0_outer, .int p0_makersFound, .int p0_first, .int p0_second]))] U.heap ∧ va_K (dC, dI) vwCl [(k_t_roots_least, .int)] U ∧ nw_all U ∧ va_D (fun _ => True) [(h0, .inr (3, [.ref h0_roots, .ref h0_strides, .ref h0_halvesFound])), (h0_roots, .inr (1, [.ref h0_roots_least, .int t_roots_prime])), (h0_roots_least, .inl (k_t_roots_least, 10007, .inl t_roots_least)), (h1, .inr (0, [.int p0_p, .int p0_a, .int p0_b, .int p0_from, .int p0_kernelPoint, .int p0_kernelOrder, .int p0_points, .int p0_inner, .int p0_outer, .int p0_makersFound, .int p0_first, .int p0_second]))])) (va_Qi (fun (r : Int32) (u : Int32 × (Nat → Int32)) => (r, u) = rr) (fun (u : Int32 × (Nat → Int32)) t => match u with | (u0, u1) => va_P (dC, dI) vwCl [(h0, .inr (3, [.ref h0_roots, .ref h0_strides, .ref h0_halvesFound])), (h0_roots, .inr (1, [.ref h0_roots_least, .int u0])), (h0_roots_least, .inl (k_t_roots_least, 10007, .inl u1)), (h1, .inr (0, [.int p0_p, .int p0_a, .int p0_b, .int p0_from, .int p0_kernelPoint, .int p0_kernelOrder, .int p0_points, .int p0_inner, .int p0_outer, .int p0_makersFound, .int p0_first, .int p0_second]))] t.heap ∧ va_K (dC, dI) vwCl [(k_t_roots_least, .int)] t ∧ va_D (va_A [(h0, .inr (3, [.ref h0_roots, .ref h0_strides, .ref h0_halvesFound])), (h0_roots, .inr (1, [.ref h0_roots_least, .int t_roots_prime])), (h0_roots_least, .inl (k_t_roots_least, 10007, .inl t_roots_least)), (h1, .inr (0, [.int p0_p, .int p0_a, .int p0_b, .int p0_from, .int p0_kernelPoint, .int p0_kernelOrder, .int p0_points, .int p0_inner, .int p0_outer, .int p0_makersFound, .int p0_first, .int p0_second]))] sz) [(h0, .inr (3, [.ref h0_roots, .ref h0_strides, .ref h0_halvesFound])), (h0_roots, .inr (1, [.ref h0_roots_least, .int u0])), (h0_roots_least, .inl (k_t_roots_least, 10007, .inl u1)), (h1, .inr (0, [.int p0_p, .int p0_a, .int p0_b, .int p0_from, .int p0_kernelPoint, .int p0_kernelOrder, .int p0_points, .int p0_inner, .int p0_outer, .int p0_makersFound, .int p0_first, .int p0_second]))]) (va_A [(h0, .inr (3, [.ref h0_roots, .ref h0_strides, .ref h0_halvesFound])), (h0_roots, .inr (1, [.ref h0_roots_least, .int t_roots_prime])), (h0_roots_least, .inl (k_t_roots_least, 10007, .inl t_roots_least)), (h1, .inr (0, [.int p0_p, .int p0_a, .int p0_b, .int p0_from, .int p0_kernelPoint, .int p0_kernelOrder, .int p0_points, .int p0_inner, .int p0_outer, .int p0_makersFound, .int p0_first, .int p0_second]))] sz)) 0 0 (va_A [(h0, .inr (3, [.ref h0_roots, .ref h0_strides, .ref h0_halvesFound])), (h0_roots, .inr (1, [.ref h0_roots_least, .int t_roots_prime])), (h0_roots_least, .inl (k_t_roots_least, 10007, .inl t_roots_least)), (h1, .inr (0, [.int p0_p, .int p0_a, .int p0_b, .int p0_from, .int p0_kernelPoint, .int p0_kernelOrder, .int p0_points, .int p0_inner, .int p0_outer, .int p0_makersFound, .int p0_first, .int p0_second]))] sz) := by
  refine Met.ofW (cc := cX3_pointsAhead) (maxL := 5) (ret := (some .int)) (by decide) rfl ?_
  intro p e s m args below meth c s₁ B hml hv
  obtain ⟨rfl, hsz, hP, hK, hN, hD0⟩ := hv
  have hx := B.exec
  have hb := B.bytes
  have hr := B.returns
  have hts := atoms_spec (ws := wsX3_pointsAhead) B.pre
  have hown : s.vm.findClass RX3 = some m.cls := findClass_of_methodNamed B.named
  have hlocks := B.notSynchronized
  subst hsz
  have hD := hD0.self (sz := s.heap.size)
  generalize hAe : va_A [(h0, .inr (3, [.ref h0_roots, .ref h0_strides, .ref h0_halvesFound])), (h0_roots, .inr (1, [.ref h0_roots_least, .int t_roots_prime])), (h0_roots_least, .inl (k_t_roots_least, 10007, .inl t_roots_least)), (h1, .inr (0, [.int p0_p, .int p0_a, .int p0_b, .int p0_from, .int p0_kernelPoint, .int p0_kernelOrder, .int p0_points, .int p0_inner, .int p0_outer, .int p0_makersFound, .int p0_first, .int p0_second]))] s.heap.size = A at hD ⊢
  have hA0 : ∀ q : Nat, s.heap.size ≤ q → A q := fun q h => by rw [← hAe]; exact Or.inr h
  have hS : va_S A s.heap s.heap [] := va_S.rf
  have hP : va_P (dC, dI) vwCl [(h0, .inr (3, [.ref h0_roots, .ref h0_strides, .ref h0_halvesFound])), (h0_roots, .inr (1, [.ref h0_roots_least, .int t_roots_prime])), (h0_roots_least, .inl (k_t_roots_least, 10007, .inl t_roots_least)), (h1, .inr (0, [.int p0_p, .int p0_a, .int p0_b, .int p0_from, .int p0_kernelPoint, .int p0_kernelOrder, .int p0_points, .int p0_inner, .int p0_outer, .int p0_makersFound, .int p0_first, .int p0_second]))] s.heap := hP
  have hl := lv_entry ([.ref h0, .ref h1, .int a1]) (n := 5) (Nat.le_of_ble_eq_true rfl)
  rw [lg_entry_eq]
  generalize (lg_sl ([.ref h0, .ref h1, .int a1]) ++ List.replicate (5 - (lg_sl ([.ref h0, .ref h1, .int a1])).length) Slot.unset).toArray = ls at hl ⊢
  have hl : lv_has ls 5 [(0, .ref h0), (1, .ref h1), (2, .int a1)] := hl
  dsimp only [mX3_pointsAhead] at h
  refine lv_iconst (v := 1) hx hb dX3_pointsAhead_0 (by decide) ?_
  refine lv_istore_n (lv' := [(3, .int 1), (0, .ref h0), (1, .ref h1), (2, .int a1)]) hx hb dX3_pointsAhead_1 rfl hl (by decide) rfl (fun ls hl => ?_)
  refine lv_iconst (v := 0) hx hb dX3_pointsAhead_2 (by decide) ?_
  refine lv_istore (lv' := [(4, .int 0), (3, .int 1), (0, .ref h0), (1, .ref h1), (2, .int a1)]) hx hb dX3_pointsAhead_3 hl (by decide) rfl (fun ls hl => ?_)
  have L5 : ∀ (n : Nat) (x1 : Int32) (x2 : Int32) (x3 : Int32) (x4 : Nat → Int32) (o : Int32 × Int32 × Int32 × (Nat → Int32)), mi_run (mX3_pointsAhead_b5 N a1 p0_p p0_a p0_b) n (x1, x2, x3, x4) = some o → (∀ (y5 : Int32) (y6 : Int32) (y7 : Int32) (y8 : Nat → Int32), o = (y5, y6, y7, y8) → ∀ (H : Heap) (locs : List Loc) (ls : Array Slot), va_P (dC, dI) vwCl [(h0, .inr (3, [.ref h0_roots, .ref h0_strides, .ref h0_halvesFound])), (h0_roots, .inr (1, [.ref h0_roots_least, .int y7])), (h0_roots_least, .inl (k_t_roots_least, 10007, .inl y8)), (h1, .inr (0, [.int p0_p, .int p0_a, .int p0_b, .int p0_from, .int p0_kernelPoint, .int p0_kernelOrder, .int p0_points, .int p0_inner, .int p0_outer, .int p0_makersFound, .int p0_first, .int p0_second]))] H → va_D A [(h0, .inr (3, [.ref h0_roots, .ref h0_strides, .ref h0_halvesFound])), (h0_roots, .inr (1, [.ref h0_roots_least, .int y7])), (h0_roots_least, .inl (k_t_roots_least, 10007, .inl y8)), (h1, .inr (0, [.int p0_p, .int p0_a, .int p0_b, .int p0_from, .int p0_kernelPoint, .int p0_kernelOrder, .int p0_points, .int p0_inner, .int p0_outer, .int p0_makersFound, .int p0_first, .int p0_second]))] → va_S A s.heap H locs → lv_has ls 5 [(3, .int y5), (4, .int y6), (0, .ref h0), (1, .ref h1), (2, .int a1)] → W p l e (headSpec wsX3_pointsAhead rmX3_pointsAhead).room s m (([.ref h0, .ref h1, .int a1] : List Value).toArray) below meth c H locs 0 0 (MQ below (va_Qi (fun (r : Int32) (u : Int32 × (Nat → Int32)) => (r, u) = rr) (fun (u : Int32 × (Nat → Int32)) t => match u with | (u0, u1) => va_P (dC, dI) vwCl [(h0, .inr (3, [.ref h0_roots, .ref h0_strides, .ref h0_halvesFound])), (h0_roots, .inr (1, [.ref h0_roots_least, .int u0])), (h0_roots_least, .inl (k_t_roots_least, 10007, .inl u1)), (h1, .inr (0, [.int p0_p, .int p0_a, .int p0_b, .int p0_from, .int p0_kernelPoint, .int p0_kernelOrder, .int p0_points, .int p0_inner, .int p0_outer, .int p0_makersFound, .int p0_first, .int p0_second]))] t.heap ∧ va_K (dC, dI) vwCl [(k_t_roots_least, .int)] t ∧ va_D (A) [(h0, .inr (3, [.ref h0_roots, .ref h0_strides, .ref h0_halvesFound])), (h0_roots, .inr (1, [.ref h0_roots_least, .int u0])), (h0_roots_least, .inl (k_t_roots_least, 10007, .inl u1)), (h1, .inr (0, [.int p0_p, .int p0_a, .int p0_b, .int p0_from, .int p0_kernelPoint, .int p0_kernelOrder, .int p0_points, .int p0_inner, .int p0_outer, .int p0_makersFound, .int p0_first, .int p0_second]))]) (A)) (([.ref h0, .ref h1, .int a1] : List Value).toArray) s 0 0 A) (F0 m 37 ls [])) → ∀ (H : Heap) (locs : List Loc) (ls : Array Slot), va_P (dC, dI) vwCl [(h0, .inr (3, [.ref h0_roots, .ref h0_strides, .ref h0_halvesFound])), (h0_roots, .inr (1, [.ref h0_roots_least, .int x3])), (h0_roots_least, .inl (k_t_roots_least, 10007, .inl x4)), (h1, .inr (0, [.int p0_p, .int p0_a, .int p0_b, .int p0_from, .int p0_kernelPoint, .int p0_kernelOrder, .int p0_points, .int p0_inner, .int p0_outer, .int p0_makersFound, .int p0_first, .int p0_second]))] H → va_D A [(h0, .inr (3, [.ref h0_roots, .ref h0_strides, .ref h0_halvesFound])), (h0_roots, .inr (1, [.ref h0_roots_least, .int x3])), (h0_roots_least, .inl (k_t_roots_least, 10007, .inl x4)), (h1, .inr (0, [.int p0_p, .int p0_a, .int p0_b, .int p0_from, .int p0_kernelPoint, .int p0_kernelOrder, .int p0_points, .int p0_inner, .int p0_outer, .int p0_makersFound, .int p0_first, .int p0_second]))] → va_S A s.heap H locs → lv_has ls 5 [(3, .int x1), (4, .int x2), (0, .ref h0), (1, .ref h1), (2, .int a1)] → W p l e (headSpec wsX3_pointsAhead rmX3_pointsAhead).room s m (([.ref h0, .ref h1, .int a1] : List Value).toArray) below meth c H locs 0 0 (MQ below (va_Qi (fun (r : Int32) (u : Int32 × (Nat → Int32)) => (r, u) = rr) (fun (u : Int32 × (Nat → Int32)) t => match u with | (u0, u1) => va_P (dC, dI) vwCl [(h0, .inr (3, [.ref h0_roots, .ref h0_strides, .ref h0_halvesFound])), (h0_roots, .inr (1, [.ref h0_roots_least, .int u0])), (h0_roots_least, .inl (k_t_roots_least, 10007, .inl u1)), (h1, .inr (0, [.int p0_p, .int p0_a, .int p0_b, .int p0_from, .int p0_kernelPoint, .int p0_kernelOrder, .int p0_points, .int p0_inner, .int p0_outer, .int p0_makersFound, .int p0_first, .int p0_second]))] t.heap ∧ va_K (dC, dI) vwCl [(k_t_roots_least, .int)] t ∧ va_D (A) [(h0, .inr (3, [.ref h0_roots, .ref h0_strides, .ref h0_halvesFound])), (h0_roots, .inr (1, [.ref h0_roots_least, .int u0])), (h0_roots_least, .inl (k_t_roots_least, 10007, .inl u1)), (h1, .inr (0, [.int p0_p, .int p0_a, .int p0_b, .int p0_from, .int p0_kernelPoint, .int p0_kernelOrder, .int p0_points, .int p0_inner, .int p0_outer, .int p0_makersFound, .int p0_first, .int p0_second]))]) (A)) (([.ref h0, .ref h1, .int a1] : List Value).toArray) s 0 0 A) (F0 m 5 ls []) := by
    intro n
    induction n with
    | zero => intro x1 x2 x3 x4 o h; exact absurd h (mi_run_0 _ _ _)
    | succ n ih =>
      intro x1 x2 x3 x4 o h hkE H locs ls hP hD hS hl
      obtain ⟨w, h, hA, hB⟩ := mi_run_s h
      dsimp only [mX3_pointsAhead_b5] at h
      refine lv_iload hx hb dX3_pointsAhead_5 (lv_at hl 1 rfl) ?_
      refine lv_iload_n hx hb dX3_pointsAhead_7 rfl (lv_at hl 4 rfl) ?_
      obtain ⟨r9, hr9, h⟩ := Option.bind_eq_some_iff.mp h
      refine vp_callSi (mi_cr (va_runSN (As := [.int a1]) (rest := [.int x2]) ⟨hx, hb, hml, hown, hts⟩ (ctX5_xOf l N  a1 r9 hr9) ⟨va_cnB 1 hts gX3_pointsAhead_X5_xOf_n83 rfl rfl rfl (nw_X3_83 hN) (hts (.initialized RX5) (by decide +kernel)) (by decide +kernel) ⟨Nat.le_of_ble_eq_true rfl, Nat.le_of_ble_eq_true rfl⟩, hts (.static yX5_xOf) (by decide +kernel), trivial⟩ preEq rfl rfl hl.1 rfl (lv_room (Nat.le_of_ble_eq_true rfl)) dX3_pointsAhead_8 ⟨Nat.le_of_ble_eq_true rfl, Nat.le_of_ble_eq_true rfl⟩)) (fun q9 eq9 => ?_)
      subst q9
      refine lv_icmp_ge (tgt := 37) hx hb dX3_pointsAhead_11 (by decide) (fun c10 => ?_) (fun c10 => ?_)
      · replace h := (if_pos c10).symm.trans h
        exact hkE _ _ _ _ (hB _ (Option.some.inj h).symm) _ _ ls hP hD hS (lv_sub hl [0, 1, 2, 3, 4] rfl)
      · replace h := (if_neg c10).symm.trans h
        refine lv_iload_n hx hb dX3_pointsAhead_14 rfl (lv_at hl 0 rfl) ?_
        refine lv_aload_n hx hb dX3_pointsAhead_15 rfl (lv_at hl 2 rfl) ?_
        refine lv_aload_n hx hb dX3_pointsAhead_16 rfl (lv_at hl 3 rfl) ?_
        refine lv_iload hx hb dX3_pointsAhead_17 (lv_at hl 1 rfl) ?_
        obtain ⟨r11, hr11, h⟩ := Option.bind_eq_some_iff.mp h
        have hPc := hP.sub (ws' := [(h1, .inr (0, [.int p0_p, .int p0_a, .int p0_b, .int p0_from, .int p0_kernelPoint, .int p0_kernelOrder, .int p0_points, .int p0_inner, .int p0_outer, .int p0_makersFound, .int p0_first, .int p0_second]))]) [3] rfl
        have hKc := hK.sub (tys' := []) [] rfl
        refine vp_callSi (W.runV (As := [.int x2]) (rest := [.ref h0, .int x1]) ⟨hx, hb, hml, hown, hts⟩ (ctX0_cubic l N dC dI  h1 p0_p p0_a p0_b p0_from p0_kernelPoint p0_kernelOrder p0_points p0_inner p0_outer p0_makersFound p0_first p0_second x2 r11 hr11) (cwV 1 hts gX3_pointsAhead_X0_cubic rfl rfl rfl (by decide +kernel) ⟨Nat.le_of_ble_eq_true rfl, Nat.le_of_ble_eq_true rfl⟩) ⟨fun a U g mk q => by obtain ⟨q0, qP, qK, qN⟩ := q; exact ⟨q0, qP, va_K.moved (u := U) (U := U.calling g mk a) (Vm.Alike.refl U.vm) qK, nw_same (u := U) (U := U.calling g mk a) rfl qN⟩, va_recv hKc hPc (ci := 0) (q0 := 0) rfl rfl, fun U hU hW => ⟨rfl, by rw [hU]; exact hPc, va_K.moved hW.alike hKc, nw_warm hW hN⟩⟩ rfl rfl hl.1 rfl (lv_room (Nat.le_of_ble_eq_true rfl)) dX3_pointsAhead_19 ⟨Nat.le_of_ble_eq_true rfl, Nat.le_of_ble_eq_true rfl⟩) (fun q9 eq9 => ?_)
        subst q9
        refine lv_aload_n hx hb dX3_pointsAhead_22 rfl (lv_at hl 3 rfl) ?_
        refine va_get (D := (dC, dI)) (ci := 0) (v := .int p0_p) (C := RX0) (T := TX0) (N := 12) hx hb hts (by decide +kernel) hown hK hP 3 rfl rfl 0 (by decide) (hts (.fieldLink RX3 39 "PointRings$Curve" "p" "I") (by decide +kernel)) (fun _ h9 => h9) rfl dX3_pointsAhead_23 ?_
        obtain ⟨r12, hr12, h⟩ := Option.bind_eq_some_iff.mp h
        have hPc := hP.sub (ws' := [(h0, .inr (3, [.ref h0_roots, .ref h0_strides, .ref h0_halvesFound])), (h0_roots, .inr (1, [.ref h0_roots_least, .int x3])), (h0_roots_least, .inl (k_t_roots_least, 10007, .inl x4))]) [0, 1, 2] rfl
        have hDc := hD.sub (ws' := [(h0, .inr (3, [.ref h0_roots, .ref h0_strides, .ref h0_halvesFound])), (h0_roots, .inr (1, [.ref h0_roots_least, .int x3])), (h0_roots_least, .inl (k_t_roots_least, 10007, .inl x4))]) [0, 1, 2] (by decide) rfl
        have hKc := hK.sub (tys' := [(k_t_roots_least, .int)]) [0] rfl
        have hFc := va_free (wc := [(h0, .inr (3, [.ref h0_roots, .ref h0_strides, .ref h0_halvesFound])), (h0_roots, .inr (1, [.ref h0_roots_least, .int x3])), (h0_roots_least, .inl (k_t_roots_least, 10007, .inl x4))]) hD hS hA0 [0, 1, 2] rfl
        refine va_calli (va_runV (As := [.int r11, .int p0_p]) (rest := [.int x1]) ⟨hx, hb, hml, hown, hts⟩ (ctX3_manyAt l N dC dI _ h0 h0_roots h0_roots_least h0_strides h0_halvesFound k_t_roots_least x3 x4 r11 p0_p r12 hr12) (cwV 2 hts gX3_pointsAhead_X3_manyAt rfl rfl rfl (by decide +kernel) ⟨Nat.le_of_ble_eq_true rfl, Nat.le_of_ble_eq_true rfl⟩) ⟨fun a U g mk q => by obtain ⟨q0, q1, qP, qK, qN, qD⟩ := q; exact ⟨q0, q1, qP, va_K.moved (u := U) (U := U.calling g mk a) (Vm.Alike.refl U.vm) qK, nw_same (u := U) (U := U.calling g mk a) rfl qN, qD⟩, va_recv hKc hPc (ci := 3) (q0 := 0) rfl rfl, fun U hU hW => ⟨rfl, by rw [hU], by rw [hU]; exact hPc, va_K.moved hW.alike hKc, nw_warm hW hN, hDc.weaken (fun _ _ _ _ => trivial)⟩⟩ rfl rfl hl.1 rfl (lv_room (Nat.le_of_ble_eq_true rfl)) dX3_pointsAhead_26 ⟨Nat.le_of_ble_eq_true rfl, Nat.le_of_ble_eq_true rfl⟩) hS (fun q _ h => hFc q h) hFc (fun rz u t H1 locs ht hvm hw hB1 hz1 hk1 hS => ?_)
        obtain ⟨u13, f14⟩ := u
        obtain ⟨hP1, hK1, hD1⟩ := hB1
        rw [ht] at hP1
        have hK1 := va_K.moved hvm.symm hK1
        obtain ⟨r15, rfl⟩ : ∃ z, z = rz := ⟨_, rfl⟩
        subst hw
        try dsimp only at h
        obtain ⟨hP, hD⟩ := va_join (wr := [(h1, .inr (0, [.int p0_p, .int p0_a, .int p0_b, .int p0_from, .int p0_kernelPoint, .int p0_kernelOrder, .int p0_points, .int p0_inner, .int p0_outer, .int p0_makersFound, .int p0_first, .int p0_second]))]) (w1 := [(h0, .inr (3, [.ref h0_roots, .ref h0_strides, .ref h0_halvesFound])), (h0_roots, .inr (1, [.ref h0_roots_least, .int u13])), (h0_roots_least, .inl (k_t_roots_least, 10007, .inl f14))]) hP hD [0, 1, 2] [3] rfl rfl (by decide) (by decide) hk1 hFc hP1 hD1
        generalize H1 = H at hP hS ⊢
        have hP := hP.sub (ws' := [(h0, .inr (3, [.ref h0_roots, .ref h0_strides, .ref h0_halvesFound])), (h0_roots, .inr (1, [.ref h0_roots_least, .int u13])), (h0_roots_least, .inl (k_t_roots_least, 10007, .inl f14)), (h1, .inr (0, [.int p0_p, .int p0_a, .int p0_b, .int p0_from, .int p0_kernelPoint, .int p0_kernelOrder, .int p0_points, .int p0_inner, .int p0_outer, .int p0_makersFound, .int p0_first, .int p0_second]))]) [1, 2, 3, 0] rfl
        have hD := hD.sub (ws' := [(h0, .inr (3, [.ref h0_roots, .ref h0_strides, .ref h0_halvesFound])), (h0_roots, .inr (1, [.ref h0_roots_least, .int u13])), (h0_roots_least, .inl (k_t_roots_least, 10007, .inl f14)), (h1, .inr (0, [.int p0_p, .int p0_a, .int p0_b, .int p0_from, .int p0_kernelPoint, .int p0_kernelOrder, .int p0_points, .int p0_inner, .int p0_outer, .int p0_makersFound, .int p0_first, .int p0_second]))]) [1, 2, 3, 0] (by decide) rfl
        refine lv_iadd hx hb dX3_pointsAhead_29 ?_
        refine lv_topi (fun v16 ev16 => ?_)
        replace h := mi_use ev16 h
        refine lv_istore_n (lv' := [(3, .int v16), (4, .int x2), (0, .ref h0), (1, .ref h1), (2, .int a1)]) hx hb dX3_pointsAhead_30 rfl hl (by decide) rfl (fun ls hl => ?_)
        obtain ⟨v17, ev17⟩ : ∃ z : Int32, z = x2 + 1 := ⟨_, rfl⟩
        refine lv_iinc (v := v17) (lv' := [(4, .int v17), (3, .int v16), (0, .ref h0), (1, .ref h1), (2, .int a1)]) hx hb dX3_pointsAhead_31 hl (k := 1) rfl (by rw [ev17]; rfl) (by decide) rfl (fun ls hl => ?_)
        replace h := mi_use ev17 h
        refine lv_goto (tgt := 5) hx hb dX3_pointsAhead_34 (by decide) ?_
        exact ih _ _ _ _ _ (hA _ (Option.some.inj h).symm) hkE _ _ ls hP hD hS (lv_sub hl [1, 0, 2, 3, 4] rfl)
  obtain ⟨o18, ho18, h⟩ := Option.bind_eq_some_iff.mp h
  refine L5 N _ _ _ _ o18 ho18 ?_ _ _ ls hP hD hS (lv_sub hl [1, 0, 2, 3, 4] rfl)
  intro y5 y6 y7 y8 eo H locs ls hP hD hS hl
  subst eo
  try dsimp only at h
  refine lv_aload_n hx hb dX3_pointsAhead_37 rfl (lv_at hl 2 rfl) ?_
  refine lv_aload_n hx hb dX3_pointsAhead_38 rfl (lv_at hl 3 rfl) ?_
  refine lv_iload_n hx hb dX3_pointsAhead_39 rfl (lv_at hl 4 rfl) ?_
  obtain ⟨r19, hr19, h⟩ := Option.bind_eq_some_iff.mp h
  refine vp_callSi (mi_cr (va_runSN (As := [.int a1]) (rest := [.ref h1, .ref h0]) ⟨hx, hb, hml, hown, hts⟩ (ctX5_xOf l N  a1 r19 hr19) ⟨va_cnB 1 hts gX3_pointsAhead_X5_xOf_n83 rfl rfl rfl (nw_X3_83 hN) (hts (.initialized RX5) (by decide +kernel)) (by decide +kernel) ⟨Nat.le_of_ble_eq_true rfl, Nat.le_of_ble_eq_true rfl⟩, hts (.static yX5_xOf) (by decide +kernel), trivial⟩ preEq rfl rfl hl.1 rfl (lv_room (Nat.le_of_ble_eq_true rfl)) dX3_pointsAhead_40 ⟨Nat.le_of_ble_eq_true rfl, Nat.le_of_ble_eq_true rfl⟩)) (fun q9 eq9 => ?_)
  subst q9
  obtain ⟨r20, hr20, h⟩ := Option.bind_eq_some_iff.mp h
  have hPc := hP.sub (ws' := [(h0, .inr (3, [.ref h0_roots, .ref h0_strides, .ref h0_halvesFound])), (h0_roots, .inr (1, [.ref h0_roots_least, .int y7])), (h0_roots_least, .inl (k_t_roots_least, 10007, .inl y8)), (h1, .inr (0, [.int p0_p, .int p0_a, .int p0_b, .int p0_from, .int p0_kernelPoint, .int p0_kernelOrder, .int p0_points, .int p0_inner, .int p0_outer, .int p0_makersFound, .int p0_first, .int p0_second]))]) [0, 1, 2, 3] rfl
  have hDc := hD.sub (ws' := [(h0, .inr (3, [.ref h0_roots, .ref h0_strides, .ref h0_halvesFound])), (h0_roots, .inr (1, [.ref h0_roots_least, .int y7])), (h0_roots_least, .inl (k_t_roots_least, 10007, .inl y8)), (h1, .inr (0, [.int p0_p, .int p0_a, .int p0_b, .int p0_from, .int p0_kernelPoint, .int p0_kernelOrder, .int p0_points, .int p0_inner, .int p0_outer, .int p0_makersFound, .int p0_first, .int p0_second]))]) [0, 1, 2, 3] (by decide) rfl
  have hKc := hK.sub (tys' := [(k_t_roots_least, .int)]) [0] rfl
  have hFc := va_free (wc := [(h0, .inr (3, [.ref h0_roots, .ref h0_strides, .ref h0_halvesFound])), (h0_roots, .inr (1, [.ref h0_roots_least, .int y7])), (h0_roots_least, .inl (k_t_roots_least, 10007, .inl y8)), (h1, .inr (0, [.int p0_p, .int p0_a, .int p0_b, .int p0_from, .int p0_kernelPoint, .int p0_kernelOrder, .int p0_points, .int p0_inner, .int p0_outer, .int p0_makersFound, .int p0_first, .int p0_second]))]) hD hS hA0 [0, 1, 2, 3] rfl
  refine va_calli (va_runV (As := [.ref h1, .int r19]) (rest := []) ⟨hx, hb, hml, hown, hts⟩ (ctX3_lesserAt l N dC dI _ h0 h0_roots h0_roots_least h1 h0_strides h0_halvesFound k_t_roots_least y7 y8 p0_p p0_a p0_b p0_from p0_kernelPoint p0_kernelOrder p0_points p0_inner p0_outer p0_makersFound p0_first p0_second r19 r20 hr20) (cwV 2 hts gX3_pointsAhead_X3_lesserAt rfl rfl rfl (by decide +kernel) ⟨Nat.le_of_ble_eq_true rfl, Nat.le_of_ble_eq_true rfl⟩) ⟨fun a U g mk q => by obtain ⟨q0, q1, qP, qK, qN, qD⟩ := q; exact ⟨q0, q1, qP, va_K.moved (u := U) (U := U.calling g mk a) (Vm.Alike.refl U.vm) qK, nw_same (u := U) (U := U.calling g mk a) rfl qN, qD⟩, va_recv hKc hPc (ci := 3) (q0 := 0) rfl rfl, fun U hU hW => ⟨rfl, by rw [hU], by rw [hU]; exact hPc, va_K.moved hW.alike hKc, nw_warm hW hN, hDc.weaken (fun _ _ _ _ => trivial)⟩⟩ rfl rfl hl.1 rfl (lv_room (Nat.le_of_ble_eq_true rfl)) dX3_pointsAhead_43 ⟨Nat.le_of_ble_eq_true rfl, Nat.le_of_ble_eq_true rfl⟩) hS (fun q _ h => hFc q h) hFc (fun rz u t H1 locs ht hvm hw hB1 hz1 hk1 hS => ?_)
  obtain ⟨u21, f22⟩ := u
  obtain ⟨hP1, hK1, hD1⟩ := hB1
  rw [ht] at hP1
  have hK1 := va_K.moved hvm.symm hK1
  obtain ⟨r23, rfl⟩ : ∃ z, z = rz := ⟨_, rfl⟩
  subst hw
  try dsimp only at h
  obtain ⟨hP, hD⟩ := va_join (wr := []) (w1 := [(h0, .inr (3, [.ref h0_roots, .ref h0_strides, .ref h0_halvesFound])), (h0_roots, .inr (1, [.ref h0_roots_least, .int u21])), (h0_roots_least, .inl (k_t_roots_least, 10007, .inl f22)), (h1, .inr (0, [.int p0_p, .int p0_a, .int p0_b, .int p0_from, .int p0_kernelPoint, .int p0_kernelOrder, .int p0_points, .int p0_inner, .int p0_outer, .int p0_makersFound, .int p0_first, .int p0_second]))]) hP hD [0, 1, 2, 3] [] rfl rfl (by decide) (by decide) hk1 hFc hP1 hD1
  generalize H1 = H at hP hS ⊢
  have hP := hP.sub (ws' := [(h0, .inr (3, [.ref h0_roots, .ref h0_strides, .ref h0_halvesFound])), (h0_roots, .inr (1, [.ref h0_roots_least, .int u21])), (h0_roots_least, .inl (k_t_roots_least, 10007, .inl f22)), (h1, .inr (0, [.int p0_p, .int p0_a, .int p0_b, .int p0_from, .int p0_kernelPoint, .int p0_kernelOrder, .int p0_points, .int p0_inner, .int p0_outer, .int p0_makersFound, .int p0_first, .int p0_second]))]) [0, 1, 2, 3] rfl
  have hD := hD.sub (ws' := [(h0, .inr (3, [.ref h0_roots, .ref h0_strides, .ref h0_halvesFound])), (h0_roots, .inr (1, [.ref h0_roots_least, .int u21])), (h0_roots_least, .inl (k_t_roots_least, 10007, .inl f22)), (h1, .inr (0, [.int p0_p, .int p0_a, .int p0_b, .int p0_from, .int p0_kernelPoint, .int p0_kernelOrder, .int p0_points, .int p0_inner, .int p0_outer, .int p0_makersFound, .int p0_first, .int p0_second]))]) [0, 1, 2, 3] (by decide) rfl
  refine lv_iload_n hx hb dX3_pointsAhead_46 rfl (lv_at hl 4 rfl) ?_
  refine lv_icmp_ne (tgt := 54) hx hb dX3_pointsAhead_47 (by decide) (fun c24 => ?_) (fun c24 => ?_)
  · replace h := (if_neg c24).symm.trans h
    refine lv_iload_n hx hb dX3_pointsAhead_54 rfl (lv_at hl 0 rfl) ?_
    refine lv_iconst (v := 1) hx hb dX3_pointsAhead_55 (by decide) ?_
    refine lv_iadd hx hb dX3_pointsAhead_56 ?_
    have hv : (y5 + 1, u21, f22) = rr := Option.some.inj h
    have hP9 := hP.sub (ws' := [(h0, .inr (3, [.ref h0_roots, .ref h0_strides, .ref h0_halvesFound])), (h0_roots, .inr (1, [.ref h0_roots_least, .int u21])), (h0_roots_least, .inl (k_t_roots_least, 10007, .inl f22)), (h1, .inr (0, [.int p0_p, .int p0_a, .int p0_b, .int p0_from, .int p0_kernelPoint, .int p0_kernelOrder, .int p0_points, .int p0_inner, .int p0_outer, .int p0_makersFound, .int p0_first, .int p0_second]))]) [0, 1, 2, 3] rfl
    have hD9 := hD.sub (ws' := [(h0, .inr (3, [.ref h0_roots, .ref h0_strides, .ref h0_halvesFound])), (h0_roots, .inr (1, [.ref h0_roots_least, .int u21])), (h0_roots_least, .inl (k_t_roots_least, 10007, .inl f22)), (h1, .inr (0, [.int p0_p, .int p0_a, .int p0_b, .int p0_from, .int p0_kernelPoint, .int p0_kernelOrder, .int p0_points, .int p0_inner, .int p0_outer, .int p0_makersFound, .int p0_first, .int p0_second]))]) [0, 1, 2, 3] (by decide) rfl
    have hK9 := hK.sub (tys' := [(k_t_roots_least, .int)]) [0] rfl
    exact W.iret (v := (y5 + 1)) hx hb hr (fun t ht hW => ⟨⟨y5 + 1, (u21, f22), rfl, hv, by rw [ht]; exact hP9, va_K.moved hW.alike hK9, hD9⟩, hS.F ht⟩) hS.2.2 dX3_pointsAhead_57
  · replace h := (if_pos c24).symm.trans h
    refine lv_iload_n hx hb dX3_pointsAhead_50 rfl (lv_at hl 0 rfl) ?_
    refine lv_goto (tgt := 57) hx hb dX3_pointsAhead_51 (by decide) ?_
    have hv : (y5, u21, f22) = rr := Option.some.inj h
    have hP9 := hP.sub (ws' := [(h0, .inr (3, [.ref h0_roots, .ref h0_strides, .ref h0_halvesFound])), (h0_roots, .inr (1, [.ref h0_roots_least, .int u21])), (h0_roots_least, .inl (k_t_roots_least, 10007, .inl f22)), (h1, .inr (0, [.int p0_p, .int p0_a, .int p0_b, .int p0_from, .int p0_kernelPoint, .int p0_kernelOrder, .int p0_points, .int p0_inner, .int p0_outer, .int p0_makersFound, .int p0_first, .int p0_second]))]) [0, 1, 2, 3] rfl
    have hD9 := hD.sub (ws' := [(h0, .inr (3, [.ref h0_roots, .ref h0_strides, .ref h0_halvesFound])), (h0_roots, .inr (1, [.ref h0_roots_least, .int u21])), (h0_roots_least, .inl (k_t_roots_least, 10007, .inl f22)), (h1, .inr (0, [.int p0_p, .int p0_a, .int p0_b, .int p0_from, .int p0_kernelPoint, .int p0_kernelOrder, .int p0_points, .int p0_inner, .int p0_outer, .int p0_makersFound, .int p0_first, .int p0_second]))]) [0, 1, 2, 3] (by decide) rfl
    have hK9 := hK.sub (tys' := [(k_t_roots_least, .int)]) [0] rfl
    exact W.iret (v := y5) hx hb hr (fun t ht hW => ⟨⟨y5, (u21, f22), rfl, hv, by rw [ht]; exact hP9, va_K.moved hW.alike hK9, hD9⟩, hS.F ht⟩) hS.2.2 dX3_pointsAhead_57
def mX3_powerToLaid_b9 (N : Nat) (t_strides_order : Int32) (t_strides_reach : Int32) (t_strides_back : Int32) (t_strides_stepAt : Nat → Int32) (t_strides_ends : Nat → Int32) (h1_p : Int32) (h1_a : Int32) (a2 : Int32) (st : Int32 × Int32 × Int32) : Option ((Int32 × Int32 × Int32) ⊕ (Int32 × Int32 × Int32)) :=
  match st with
  | (x1, x2, x3) => if 32 ≤ x3 then some (.inr (x1, x2, x3)) else (mX2_stepsTo N t_strides_order t_strides_reach t_strides_back t_strides_stepAt t_strides_ends h1_p h1_a x2).bind (fun r8 => if r8 = (-1) then (mX0_multiple N h1_p h1_a x2 a2.toInt64).bind (fun r10 => mi_let (x1 * a2) (fun v11 => mi_let (x3 + 1) (fun v12 => some (.inl (v11, r10, v12))))) else some (.inr (x1, x2, x3)))
def mX3_powerToLaid (N : Nat) (t_strides_order : Int32) (t_strides_reach : Int32) (t_strides_back : Int32) (t_strides_stepAt : Nat → Int32) (t_strides_ends : Nat → Int32) (h1_p : Int32) (h1_a : Int32) (a1 : Int32) (a2 : Int32) : Option (Int32) := (mi_run (mX3_powerToLaid_b9 N t_strides_order t_strides_reach t_strides_back t_strides_stepAt t_strides_ends h1_p h1_a a2) N (1, a1, 0)).bind (fun o13 => match o13 with | (y4, y5, y6) => some y4)
abbrev rmX3_powerToLaid : Room := { frames := 3, cells := 0, slots := 0, locals := 88 }
set_option maxHeartbeats 4000000 in
set_option maxRecDepth 100000 in
theorem ctX3_powerToLaid (l : Launch) (N : Nat) (dC : Nat → ClassId) (dI : Nat → Nat → Nat) (h0 : Nat) (h0_strides : Nat) (h0_strides_stepAt : Nat) (h0_strides_ends : Nat) (h1 : Nat) (h0_roots : Nat) (h0_halvesFound : Nat) (k_t_strides_stepAt : ClassId) (k_t_strides_ends : ClassId) (t_strides_order : Int32) (t_strides_reach : Int32) (t_strides_back : Int32) (t_strides_stepAt : Nat → Int32) (t_strides_ends : Nat → Int32) (h1_p : Int32) (h1_a : Int32) (h1_b : Int32) (h1_from : Int32) (h1_kernelPoint : Int32) (h1_kernelOrder : Int32) (h1_points : Int32) (h1_inner : Int32) (h1_outer : Int32) (h1_makersFound : Int32) (h1_first : Int32) (h1_second : Int32) (a1 : Int32) (a2 : Int32) (rr : Int32) (h : mX3_powerToLaid N t_strides_order t_strides_reach t_strides_back t_strides_stepAt t_strides_ends h1_p h1_a a1 a2 = some rr) : Met l yX3_powerToLaid wsX3_powerToLaid rmX3_powerToLaid (va_Pc [.ref h0, .ref h1, .int a1, .int a2] (fun U => va_P (dC, dI) vwCl [(h0, .inr (3, [.ref h0_roots, .ref h0_strides, .ref h0_halvesFound])), (h0_strides, .inr (2, [.ref h0_strides_stepAt, .ref h0_strides_ends, .ref h1, .int t_strides_order, .int t_strides_reach, .int t_strides_back])), (h0_strides_stepAt, .inl (k_t_strides_stepAt, 10007, .inl t_strides_stepAt)), (h0_strides_ends, .inl (k_t_strides_ends, 128, .inl t_strides_ends)), (h1, .inr (0, [.int h1_p, .int h1_a, .int h1_b, .int h1_from, .int h1_kernelPoint, .int h1_kernelOrder, .int h1_points, .int h1_inner, .int h1_outer, .int h1_makersFound, .int h1_first, .int h1_second]))] U.heap ∧ va_K (dC, dI) vwCl [(k_t_strides_stepAt, .int), (k_t_strides_ends, .int)] U ∧ nw_all U)) (vp_Si (fun r => r = rr)) 0 0 (fun _ => False) := by
  refine Met.ofW (cc := cX3_powerToLaid) (maxL := 7) (ret := (some .int)) (by decide) rfl ?_
  intro p e s m args below meth c s₁ B hml hv
  obtain ⟨rfl, hP, hK, hN⟩ := hv
  have hx := B.exec
  have hb := B.bytes
  have hr := B.returns
  have hts := atoms_spec (ws := wsX3_powerToLaid) B.pre
  have hown : s.vm.findClass RX3 = some m.cls := findClass_of_methodNamed B.named
  have hlocks := B.notSynchronized
  have hl := lv_entry ([.ref h0, .ref h1, .int a1, .int a2]) (n := 7) (Nat.le_of_ble_eq_true rfl)
  rw [lg_entry_eq]
  generalize (lg_sl ([.ref h0, .ref h1, .int a1, .int a2]) ++ List.replicate (7 - (lg_sl ([.ref h0, .ref h1, .int a1, .int a2])).length) Slot.unset).toArray = ls at hl ⊢
  have hl : lv_has ls 7 [(0, .ref h0), (1, .ref h1), (2, .int a1), (3, .int a2)] := hl
  dsimp only [mX3_powerToLaid] at h
  refine lv_iconst (v := 1) hx hb dX3_powerToLaid_0 (by decide) ?_
  refine lv_istore (lv' := [(4, .int 1), (0, .ref h0), (1, .ref h1), (2, .int a1), (3, .int a2)]) hx hb dX3_powerToLaid_1 hl (by decide) rfl (fun ls hl => ?_)
  refine lv_iload_n hx hb dX3_powerToLaid_3 rfl (lv_at hl 3 rfl) ?_
  refine lv_istore (lv' := [(5, .int a1), (4, .int 1), (0, .ref h0), (1, .ref h1), (2, .int a1), (3, .int a2)]) hx hb dX3_powerToLaid_4 hl (by decide) rfl (fun ls hl => ?_)
  refine lv_iconst (v := 0) hx hb dX3_powerToLaid_6 (by decide) ?_
  refine lv_istore (lv' := [(6, .int 0), (5, .int a1), (4, .int 1), (0, .ref h0), (1, .ref h1), (2, .int a1), (3, .int a2)]) hx hb dX3_powerToLaid_7 hl (by decide) rfl (fun ls hl => ?_)
  have L9 : ∀ (n : Nat) (x1 : Int32) (x2 : Int32) (x3 : Int32) (o : Int32 × Int32 × Int32), mi_run (mX3_powerToLaid_b9 N t_strides_order t_strides_reach t_strides_back t_strides_stepAt t_strides_ends h1_p h1_a a2) n (x1, x2, x3) = some o → (∀ (y4 : Int32) (y5 : Int32) (y6 : Int32), o = (y4, y5, y6) → ∀ ls, lv_has ls 7 [(4, .int y4), (5, .int y5), (6, .int y6), (0, .ref h0), (1, .ref h1), (2, .int a1), (3, .int a2)] → W p l e (headSpec wsX3_powerToLaid rmX3_powerToLaid).room s m (([.ref h0, .ref h1, .int a1, .int a2] : List Value).toArray) below meth c s.heap [] 0 0 (MQ below (vp_Si (fun r => r = rr)) (([.ref h0, .ref h1, .int a1, .int a2] : List Value).toArray) s 0 0 (fun _ => False)) (F0 m 51 ls [])) → ∀ ls, lv_has ls 7 [(4, .int x1), (5, .int x2), (6, .int x3), (0, .ref h0), (1, .ref h1), (2, .int a1), (3, .int a2)] → W p l e (headSpec wsX3_powerToLaid rmX3_powerToLaid).room s m (([.ref h0, .ref h1, .int a1, .int a2] : List Value).toArray) below meth c s.heap [] 0 0 (MQ below (vp_Si (fun r => r = rr)) (([.ref h0, .ref h1, .int a1, .int a2] : List Value).toArray) s 0 0 (fun _ => False)) (F0 m 9 ls []) := by
    intro n
    induction n with
    | zero => intro x1 x2 x3 o h; exact absurd h (mi_run_0 _ _ _)
    | succ n ih =>
      intro x1 x2 x3 o h hkE ls hl
      obtain ⟨w, h, hA, hB⟩ := mi_run_s h
      dsimp only [mX3_powerToLaid_b9] at h
      refine lv_iload hx hb dX3_powerToLaid_9 (lv_at hl 2 rfl) ?_
      refine lv_bipush (v := 32) hx hb dX3_powerToLaid_11 (by decide) ?_
      refine lv_icmp_ge (tgt := 51) hx hb dX3_powerToLaid_13 (by decide) (fun c7 => ?_) (fun c7 => ?_)
      · replace h := (if_pos c7).symm.trans h
        exact hkE _ _ _ (hB _ (Option.some.inj h).symm) ls (lv_sub hl [0, 1, 2, 3, 4, 5, 6] rfl)
      · replace h := (if_neg c7).symm.trans h
        refine lv_aload_n hx hb dX3_powerToLaid_16 rfl (lv_at hl 3 rfl) ?_
        refine va_get (D := (dC, dI)) (ci := 3) (v := .ref h0_strides) (C := RX3) (T := TX3) (N := 3) hx hb hts (by decide +kernel) hown hK hP 0 rfl rfl 1 (by decide) (hts (.fieldLink RX3 21 "PointRings$Survey" "strides" "LPointRings$Strides;") (by decide +kernel)) (fun _ h9 => h9) rfl dX3_powerToLaid_17 ?_
        refine lv_iload hx hb dX3_powerToLaid_20 (lv_at hl 1 rfl) ?_
        obtain ⟨r8, hr8, h⟩ := Option.bind_eq_some_iff.mp h
        have hPc := hP.sub (ws' := [(h0_strides, .inr (2, [.ref h0_strides_stepAt, .ref h0_strides_ends, .ref h1, .int t_strides_order, .int t_strides_reach, .int t_strides_back])), (h0_strides_stepAt, .inl (k_t_strides_stepAt, 10007, .inl t_strides_stepAt)), (h0_strides_ends, .inl (k_t_strides_ends, 128, .inl t_strides_ends)), (h1, .inr (0, [.int h1_p, .int h1_a, .int h1_b, .int h1_from, .int h1_kernelPoint, .int h1_kernelOrder, .int h1_points, .int h1_inner, .int h1_outer, .int h1_makersFound, .int h1_first, .int h1_second]))]) [1, 2, 3, 4] rfl
        have hKc := hK.sub (tys' := [(k_t_strides_stepAt, .int), (k_t_strides_ends, .int)]) [0, 1] rfl
        refine vp_callSi (W.runV (As := [.int x2]) (rest := []) ⟨hx, hb, hml, hown, hts⟩ (ctX2_stepsTo l N dC dI  h0_strides h0_strides_stepAt h0_strides_ends h1 k_t_strides_stepAt k_t_strides_ends t_strides_order t_strides_reach t_strides_back t_strides_stepAt t_strides_ends h1_p h1_a h1_b h1_from h1_kernelPoint h1_kernelOrder h1_points h1_inner h1_outer h1_makersFound h1_first h1_second x2 r8 hr8) (cwV 1 hts gX3_powerToLaid_X2_stepsTo rfl rfl rfl (by decide +kernel) ⟨Nat.le_of_ble_eq_true rfl, Nat.le_of_ble_eq_true rfl⟩) ⟨fun a U g mk q => by obtain ⟨q0, qP, qK, qN⟩ := q; exact ⟨q0, qP, va_K.moved (u := U) (U := U.calling g mk a) (Vm.Alike.refl U.vm) qK, nw_same (u := U) (U := U.calling g mk a) rfl qN⟩, va_recv hKc hPc (ci := 2) (q0 := 0) rfl rfl, fun U hU hW => ⟨rfl, by rw [hU]; exact hPc, va_K.moved hW.alike hKc, nw_warm hW hN⟩⟩ rfl rfl hl.1 rfl (lv_room (Nat.le_of_ble_eq_true rfl)) dX3_powerToLaid_22 ⟨Nat.le_of_ble_eq_true rfl, Nat.le_of_ble_eq_true rfl⟩) (fun q9 eq9 => ?_)
        subst q9
        refine lv_iconst (v := (-1)) hx hb dX3_powerToLaid_25 (by decide) ?_
        refine lv_icmp_ne (tgt := 51) hx hb dX3_powerToLaid_26 (by decide) (fun c9 => ?_) (fun c9 => ?_)
        · replace h := (if_neg c9).symm.trans h
          exact hkE _ _ _ (hB _ (Option.some.inj h).symm) ls (lv_sub hl [0, 1, 2, 3, 4, 5, 6] rfl)
        · replace h := (if_pos c9).symm.trans h
          refine lv_aload_n hx hb dX3_powerToLaid_29 rfl (lv_at hl 4 rfl) ?_
          refine lv_iload hx hb dX3_powerToLaid_30 (lv_at hl 1 rfl) ?_
          refine lv_iload_n hx hb dX3_powerToLaid_32 rfl (lv_at hl 6 rfl) ?_
          refine lv_i2l hx hb dX3_powerToLaid_33 rfl ?_
          obtain ⟨r10, hr10, h⟩ := Option.bind_eq_some_iff.mp h
          have hPc := hP.sub (ws' := [(h1, .inr (0, [.int h1_p, .int h1_a, .int h1_b, .int h1_from, .int h1_kernelPoint, .int h1_kernelOrder, .int h1_points, .int h1_inner, .int h1_outer, .int h1_makersFound, .int h1_first, .int h1_second]))]) [4] rfl
          have hKc := hK.sub (tys' := []) [] rfl
          refine vp_callSi (W.runV (As := [.int x2, .long a2.toInt64]) (rest := []) ⟨hx, hb, hml, hown, hts⟩ (ctX0_multiple l N dC dI  h1 h1_p h1_a h1_b h1_from h1_kernelPoint h1_kernelOrder h1_points h1_inner h1_outer h1_makersFound h1_first h1_second x2 a2.toInt64 r10 hr10) (cwV 2 hts gX3_powerToLaid_X0_multiple rfl rfl rfl (by decide +kernel) ⟨Nat.le_of_ble_eq_true rfl, Nat.le_of_ble_eq_true rfl⟩) ⟨fun a U g mk q => by obtain ⟨q0, qP, qK, qN⟩ := q; exact ⟨q0, qP, va_K.moved (u := U) (U := U.calling g mk a) (Vm.Alike.refl U.vm) qK, nw_same (u := U) (U := U.calling g mk a) rfl qN⟩, va_recv hKc hPc (ci := 0) (q0 := 0) rfl rfl, fun U hU hW => ⟨rfl, by rw [hU]; exact hPc, va_K.moved hW.alike hKc, nw_warm hW hN⟩⟩ rfl rfl hl.1 rfl (lv_room (Nat.le_of_ble_eq_true rfl)) dX3_powerToLaid_34 ⟨Nat.le_of_ble_eq_true rfl, Nat.le_of_ble_eq_true rfl⟩) (fun q9 eq9 => ?_)
          subst q9
          refine lv_istore (lv' := [(5, .int r10), (4, .int x1), (6, .int x3), (0, .ref h0), (1, .ref h1), (2, .int a1), (3, .int a2)]) hx hb dX3_powerToLaid_37 hl (by decide) rfl (fun ls hl => ?_)
          refine lv_iload hx hb dX3_powerToLaid_39 (lv_at hl 1 rfl) ?_
          refine lv_iload_n hx hb dX3_powerToLaid_41 rfl (lv_at hl 6 rfl) ?_
          refine lv_imul hx hb dX3_powerToLaid_42 ?_
          refine lv_topi (fun v11 ev11 => ?_)
          replace h := mi_use ev11 h
          refine lv_istore (lv' := [(4, .int v11), (5, .int r10), (6, .int x3), (0, .ref h0), (1, .ref h1), (2, .int a1), (3, .int a2)]) hx hb dX3_powerToLaid_43 hl (by decide) rfl (fun ls hl => ?_)
          obtain ⟨v12, ev12⟩ : ∃ z : Int32, z = x3 + 1 := ⟨_, rfl⟩
          refine lv_iinc (v := v12) (lv' := [(6, .int v12), (4, .int v11), (5, .int r10), (0, .ref h0), (1, .ref h1), (2, .int a1), (3, .int a2)]) hx hb dX3_powerToLaid_45 hl (k := 2) rfl (by rw [ev12]; rfl) (by decide) rfl (fun ls hl => ?_)
          replace h := mi_use ev12 h
          refine lv_goto (tgt := 9) hx hb dX3_powerToLaid_48 (by decide) ?_
          exact ih _ _ _ _ (hA _ (Option.some.inj h).symm) hkE ls (lv_sub hl [1, 2, 0, 3, 4, 5, 6] rfl)
  obtain ⟨o13, ho13, h⟩ := Option.bind_eq_some_iff.mp h
  refine L9 N _ _ _ o13 ho13 ?_ ls (lv_sub hl [2, 1, 0, 3, 4, 5, 6] rfl)
  intro y4 y5 y6 eo ls hl
  subst eo
  try dsimp only at h
  refine lv_iload hx hb dX3_powerToLaid_51 (lv_at hl 0 rfl) ?_
  have hv : y4 = rr := Option.some.inj h
  exact W.iret (v := y4) hx hb hr (fun t ht hW => ⟨_, rfl, hv, ht⟩) (fun q hq => absurd hq List.not_mem_nil) dX3_powerToLaid_53
