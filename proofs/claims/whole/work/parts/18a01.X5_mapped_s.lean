def mX5_mapped_s (N : Nat) (y0_p : Int32) (y0_a : Int32) (y0_b : Int32) (a0 : Int32) (a1 : Int32) (a2 : Int32) : Option (Int32) := if a1 = 0 then some (-2) else (mX4_isBelow N a1 y0_p).bind (fun r3 => if r3 = 0 then some (-2) else (mX0_holds N y0_p y0_a y0_b a2).bind (fun r5 => if r5 = 0 then some (-2) else if a2 = (-1) then some (-1) else if y0_p = 0 then none else mi_let (mi_rem (a1 * a1) y0_p) (fun v9 => if y0_p = 0 then none else mi_let (mi_rem (v9 * a1) y0_p) (fun v11 => (mX5_xOf N a2).bind (fun r12 => if y0_p = 0 then none else mi_let (mi_rem (r12 * v9) y0_p) (fun v14 => (mX5_yOf N a2).bind (fun r15 => if y0_p = 0 then none else mi_let (mi_rem (r15 * v11) y0_p) (fun v17 => (mX5_pair N v14 v17).bind (fun r18 => some r18)))))))))
abbrev rmX5_mapped_s : Room := { frames := 2, cells := 0, slots := 0, locals := 44 }
set_option maxHeartbeats 4000000 in
set_option maxRecDepth 100000 in
theorem ctX5_mapped_s (l : Launch) (N : Nat) (dC : Nat → ClassId) (dI : Nat → Nat → Nat) (h0 : Nat) (h0_held : Nat) (y0 : Nat) (h0_roots : Nat) (h0_survey : Nat) (k_t_held : ClassId) (t_size : Int32) (t_held : Nat → Option Nat) (y0_p : Int32) (y0_a : Int32) (y0_b : Int32) (y0_from : Int32) (y0_kernelPoint : Int32) (y0_kernelOrder : Int32) (y0_points : Int32) (y0_inner : Int32) (y0_outer : Int32) (y0_makersFound : Int32) (y0_first : Int32) (y0_second : Int32) (a0 : Int32) (a1 : Int32) (a2 : Int32) (rr : Int32) (h : mX5_mapped_s N y0_p y0_a y0_b a0 a1 a2 = some rr) (hk0 : mX5_at N t_size t_held a0 = some (some y0)) : Met l yX5_mapped wsX5_mapped rmX5_mapped_s (va_Pc [.ref h0, .int a0, .int a1, .int a2] (fun U => va_P (dC, dI) vwCl [(h0, .inr (4, [.ref h0_held, .int t_size, .ref h0_roots, .ref h0_survey])), (h0_held, .inl (k_t_held, 24, .inr (.inr (.inr (.inr t_held))))), (y0, .inr (0, [.int y0_p, .int y0_a, .int y0_b, .int y0_from, .int y0_kernelPoint, .int y0_kernelOrder, .int y0_points, .int y0_inner, .int y0_outer, .int y0_makersFound, .int y0_first, .int y0_second]))] U.heap ∧ va_K (dC, dI) vwCl [(k_t_held, .object "PointRings$Curve")] U ∧ nw_all U)) (vp_Si (fun r => r = rr)) 0 0 (fun _ => False) := by
  refine Met.ofW (cc := cX5_mapped) (maxL := 7) (ret := (some .int)) (by decide) rfl ?_
  intro p e s m args below meth c s₁ B hml hv
  obtain ⟨rfl, hP, hK, hN⟩ := hv
  have hx := B.exec
  have hb := B.bytes
  have hr := B.returns
  have hts := atoms_spec (ws := wsX5_mapped) B.pre
  have hown : s.vm.findClass RX5 = some m.cls := findClass_of_methodNamed B.named
  have hlocks := B.notSynchronized
  have hl := lv_entry ([.ref h0, .int a0, .int a1, .int a2]) (n := 7) (Nat.le_of_ble_eq_true rfl)
  rw [lg_entry_eq]
  generalize (lg_sl ([.ref h0, .int a0, .int a1, .int a2]) ++ List.replicate (7 - (lg_sl ([.ref h0, .int a0, .int a1, .int a2])).length) Slot.unset).toArray = ls at hl ⊢
  have hl : lv_has ls 7 [(0, .ref h0), (1, .int a0), (2, .int a1), (3, .int a2)] := hl
  dsimp only [mX5_mapped_s] at h
  refine lv_aload_n hx hb dX5_mapped_0 rfl (lv_at hl 0 rfl) ?_
  refine lv_iload_n hx hb dX5_mapped_1 rfl (lv_at hl 1 rfl) ?_
  have hPc := hP.sub (ws' := [(h0, .inr (4, [.ref h0_held, .int t_size, .ref h0_roots, .ref h0_survey])), (h0_held, .inl (k_t_held, 24, .inr (.inr (.inr (.inr t_held)))))]) [0, 1] rfl
  have hKc := hK.sub (tys' := [(k_t_held, .object "PointRings$Curve")]) [0] rfl
  refine va_csq (W.runV (As := [.int a0]) (rest := []) ⟨hx, hb, hml, hown, hts⟩ (ctX5_at l N dC dI  h0 h0_held h0_roots h0_survey k_t_held t_size t_held a0 (some y0) hk0) (cwV 1 hts gX5_mapped_X5_at rfl rfl rfl (by decide +kernel) ⟨Nat.le_of_ble_eq_true rfl, Nat.le_of_ble_eq_true rfl⟩) ⟨fun a U g mk q => by obtain ⟨q0, qP, qK, qN⟩ := q; exact ⟨q0, qP, va_K.moved (u := U) (U := U.calling g mk a) (Vm.Alike.refl U.vm) qK, nw_same (u := U) (U := U.calling g mk a) rfl qN⟩, va_recv hKc hPc (ci := 4) (q0 := 0) rfl rfl, fun U hU hW => ⟨rfl, by rw [hU]; exact hPc, va_K.moved hW.alike hKc, nw_warm hW hN⟩⟩ rfl rfl hl.1 rfl (lv_room (Nat.le_of_ble_eq_true rfl)) dX5_mapped_2 ⟨Nat.le_of_ble_eq_true rfl, Nat.le_of_ble_eq_true rfl⟩) (fun q9 eq9 => ?_)
  subst q9
  refine lv_astore (lv' := [(4, .ref y0), (0, .ref h0), (1, .int a0), (2, .int a1), (3, .int a2)]) hx hb dX5_mapped_5 hl (by decide) rfl (fun ls hl => ?_)
  refine lv_aload hx hb dX5_mapped_7 (lv_at hl 0 rfl) ?_
  refine lv_ifnull hx hb dX5_mapped_9 ?_
  refine lv_iload_n hx hb dX5_mapped_12 rfl (lv_at hl 3 rfl) ?_
  refine lv_if_eq (tgt := 37) hx hb dX5_mapped_13 (by decide) (fun c2 => ?_) (fun c2 => ?_)
  · replace h := (if_pos c2).symm.trans h
    refine lv_bipush (v := (-2)) hx hb dX5_mapped_37 (by decide) ?_
    have hv : (-2) = rr := Option.some.inj h
    exact W.iret (v := (-2)) hx hb hr (fun t ht hW => ⟨_, rfl, hv, ht⟩) (fun q hq => absurd hq List.not_mem_nil) dX5_mapped_39
  · replace h := (if_neg c2).symm.trans h
    refine lv_iload_n hx hb dX5_mapped_16 rfl (lv_at hl 3 rfl) ?_
    refine lv_aload hx hb dX5_mapped_17 (lv_at hl 0 rfl) ?_
    refine va_get (D := (dC, dI)) (ci := 0) (v := .int y0_p) (C := RX0) (T := TX0) (N := 12) hx hb hts (by decide +kernel) hown hK hP 2 rfl rfl 0 (by decide) (hts (.fieldLink RX5 60 "PointRings$Curve" "p" "I") (by decide +kernel)) (fun _ h9 => h9) rfl dX5_mapped_19 ?_
    obtain ⟨r3, hr3, h⟩ := Option.bind_eq_some_iff.mp h
    refine vp_callSi (W.runS (As := [.int a1, .int y0_p]) (rest := []) ⟨hx, hb, hml, hown, hts⟩ (ctX4_isBelow l N  a1 y0_p r3 hr3) (va_cwS 2 hts gX5_mapped_X4_isBelow rfl rfl rfl (by decide +kernel) ⟨Nat.le_of_ble_eq_true rfl, Nat.le_of_ble_eq_true rfl⟩) preEq rfl rfl hl.1 rfl (lv_room (Nat.le_of_ble_eq_true rfl)) dX5_mapped_22 ⟨Nat.le_of_ble_eq_true rfl, Nat.le_of_ble_eq_true rfl⟩) (fun q9 eq9 => ?_)
    subst q9
    refine lv_if_eq (tgt := 37) hx hb dX5_mapped_25 (by decide) (fun c4 => ?_) (fun c4 => ?_)
    · replace h := (if_pos c4).symm.trans h
      refine lv_bipush (v := (-2)) hx hb dX5_mapped_37 (by decide) ?_
      have hv : (-2) = rr := Option.some.inj h
      exact W.iret (v := (-2)) hx hb hr (fun t ht hW => ⟨_, rfl, hv, ht⟩) (fun q hq => absurd hq List.not_mem_nil) dX5_mapped_39
    · replace h := (if_neg c4).symm.trans h
      refine lv_aload hx hb dX5_mapped_28 (lv_at hl 0 rfl) ?_
      refine lv_iload_n hx hb dX5_mapped_30 rfl (lv_at hl 4 rfl) ?_
      obtain ⟨r5, hr5, h⟩ := Option.bind_eq_some_iff.mp h
      have hPc := hP.sub (ws' := [(y0, .inr (0, [.int y0_p, .int y0_a, .int y0_b, .int y0_from, .int y0_kernelPoint, .int y0_kernelOrder, .int y0_points, .int y0_inner, .int y0_outer, .int y0_makersFound, .int y0_first, .int y0_second]))]) [2] rfl
      have hKc := hK.sub (tys' := []) [] rfl
      refine vp_callSi (W.runV (As := [.int a2]) (rest := []) ⟨hx, hb, hml, hown, hts⟩ (ctX0_holds l N dC dI  y0 y0_p y0_a y0_b y0_from y0_kernelPoint y0_kernelOrder y0_points y0_inner y0_outer y0_makersFound y0_first y0_second a2 r5 hr5) (cwV 1 hts gX5_mapped_X0_holds rfl rfl rfl (by decide +kernel) ⟨Nat.le_of_ble_eq_true rfl, Nat.le_of_ble_eq_true rfl⟩) ⟨fun a U g mk q => by obtain ⟨q0, qP, qK, qN⟩ := q; exact ⟨q0, qP, va_K.moved (u := U) (U := U.calling g mk a) (Vm.Alike.refl U.vm) qK, nw_same (u := U) (U := U.calling g mk a) rfl qN⟩, va_recv hKc hPc (ci := 0) (q0 := 0) rfl rfl, fun U hU hW => ⟨rfl, by rw [hU]; exact hPc, va_K.moved hW.alike hKc, nw_warm hW hN⟩⟩ rfl rfl hl.1 rfl (lv_room (Nat.le_of_ble_eq_true rfl)) dX5_mapped_31 ⟨Nat.le_of_ble_eq_true rfl, Nat.le_of_ble_eq_true rfl⟩) (fun q9 eq9 => ?_)
      subst q9
      refine lv_if_ne (tgt := 40) hx hb dX5_mapped_34 (by decide) (fun c6 => ?_) (fun c6 => ?_)
      · replace h := (if_neg c6).symm.trans h
        refine lv_iload_n hx hb dX5_mapped_40 rfl (lv_at hl 4 rfl) ?_
        refine lv_iconst (v := (-1)) hx hb dX5_mapped_41 (by decide) ?_
        refine lv_icmp_ne (tgt := 47) hx hb dX5_mapped_42 (by decide) (fun c7 => ?_) (fun c7 => ?_)
        · replace h := (if_neg c7).symm.trans h
          refine lv_iload_n hx hb dX5_mapped_47 rfl (lv_at hl 3 rfl) ?_
          refine lv_iload_n hx hb dX5_mapped_48 rfl (lv_at hl 3 rfl) ?_
          refine lv_imul hx hb dX5_mapped_49 ?_
          refine lv_aload hx hb dX5_mapped_50 (lv_at hl 0 rfl) ?_
          refine va_get (D := (dC, dI)) (ci := 0) (v := .int y0_p) (C := RX0) (T := TX0) (N := 12) hx hb hts (by decide +kernel) hown hK hP 2 rfl rfl 0 (by decide) (hts (.fieldLink RX5 60 "PointRings$Curve" "p" "I") (by decide +kernel)) (fun _ h9 => h9) rfl dX5_mapped_52 ?_
          have hn8 : ¬ y0_p = 0 := fun hz => absurd ((if_pos hz).symm.trans h) (fun hh => nomatch hh)
          replace h := (if_neg hn8).symm.trans h
          refine lv_irem hx hb dX5_mapped_55 hn8 ?_
          refine lv_topi (fun v9 ev9 => ?_)
          replace h := mi_use ev9 h
          refine lv_istore (lv' := [(5, .int v9), (4, .ref y0), (0, .ref h0), (1, .int a0), (2, .int a1), (3, .int a2)]) hx hb dX5_mapped_56 hl (by decide) rfl (fun ls hl => ?_)
          refine lv_iload hx hb dX5_mapped_58 (lv_at hl 0 rfl) ?_
          refine lv_iload_n hx hb dX5_mapped_60 rfl (lv_at hl 4 rfl) ?_
          refine lv_imul hx hb dX5_mapped_61 ?_
          refine lv_aload hx hb dX5_mapped_62 (lv_at hl 1 rfl) ?_
          refine va_get (D := (dC, dI)) (ci := 0) (v := .int y0_p) (C := RX0) (T := TX0) (N := 12) hx hb hts (by decide +kernel) hown hK hP 2 rfl rfl 0 (by decide) (hts (.fieldLink RX5 60 "PointRings$Curve" "p" "I") (by decide +kernel)) (fun _ h9 => h9) rfl dX5_mapped_64 ?_
          have hn10 : ¬ y0_p = 0 := fun hz => absurd ((if_pos hz).symm.trans h) (fun hh => nomatch hh)
          replace h := (if_neg hn10).symm.trans h
          refine lv_irem hx hb dX5_mapped_67 hn10 ?_
          refine lv_topi (fun v11 ev11 => ?_)
          replace h := mi_use ev11 h
          refine lv_istore (lv' := [(6, .int v11), (5, .int v9), (4, .ref y0), (0, .ref h0), (1, .int a0), (2, .int a1), (3, .int a2)]) hx hb dX5_mapped_68 hl (by decide) rfl (fun ls hl => ?_)
          refine lv_iload_n hx hb dX5_mapped_70 rfl (lv_at hl 6 rfl) ?_
          obtain ⟨r12, hr12, h⟩ := Option.bind_eq_some_iff.mp h
          refine vp_callSi (W.runS (As := [.int a2]) (rest := []) ⟨hx, hb, hml, hown, hts⟩ (ctX5_xOf l N  a2 r12 hr12) (va_cwS 1 hts gX5_mapped_X5_xOf rfl rfl rfl (by decide +kernel) ⟨Nat.le_of_ble_eq_true rfl, Nat.le_of_ble_eq_true rfl⟩) preEq rfl rfl hl.1 rfl (lv_room (Nat.le_of_ble_eq_true rfl)) dX5_mapped_71 ⟨Nat.le_of_ble_eq_true rfl, Nat.le_of_ble_eq_true rfl⟩) (fun q9 eq9 => ?_)
          subst q9
          refine lv_iload hx hb dX5_mapped_74 (lv_at hl 1 rfl) ?_
          refine lv_imul hx hb dX5_mapped_76 ?_
          refine lv_aload hx hb dX5_mapped_77 (lv_at hl 2 rfl) ?_
          refine va_get (D := (dC, dI)) (ci := 0) (v := .int y0_p) (C := RX0) (T := TX0) (N := 12) hx hb hts (by decide +kernel) hown hK hP 2 rfl rfl 0 (by decide) (hts (.fieldLink RX5 60 "PointRings$Curve" "p" "I") (by decide +kernel)) (fun _ h9 => h9) rfl dX5_mapped_79 ?_
          have hn13 : ¬ y0_p = 0 := fun hz => absurd ((if_pos hz).symm.trans h) (fun hh => nomatch hh)
          replace h := (if_neg hn13).symm.trans h
          refine lv_irem hx hb dX5_mapped_82 hn13 ?_
          refine lv_topi (fun v14 ev14 => ?_)
          replace h := mi_use ev14 h
          refine lv_iload_n hx hb dX5_mapped_83 rfl (lv_at hl 6 rfl) ?_
          obtain ⟨r15, hr15, h⟩ := Option.bind_eq_some_iff.mp h
          refine vp_callSi (W.runS (As := [.int a2]) (rest := [.int v14]) ⟨hx, hb, hml, hown, hts⟩ (ctX5_yOf l N  a2 r15 hr15) (va_cwS 1 hts gX5_mapped_X5_yOf rfl rfl rfl (by decide +kernel) ⟨Nat.le_of_ble_eq_true rfl, Nat.le_of_ble_eq_true rfl⟩) preEq rfl rfl hl.1 rfl (lv_room (Nat.le_of_ble_eq_true rfl)) dX5_mapped_84 ⟨Nat.le_of_ble_eq_true rfl, Nat.le_of_ble_eq_true rfl⟩) (fun q9 eq9 => ?_)
          subst q9
          refine lv_iload hx hb dX5_mapped_87 (lv_at hl 0 rfl) ?_
          refine lv_imul hx hb dX5_mapped_89 ?_
          refine lv_aload hx hb dX5_mapped_90 (lv_at hl 2 rfl) ?_
          refine va_get (D := (dC, dI)) (ci := 0) (v := .int y0_p) (C := RX0) (T := TX0) (N := 12) hx hb hts (by decide +kernel) hown hK hP 2 rfl rfl 0 (by decide) (hts (.fieldLink RX5 60 "PointRings$Curve" "p" "I") (by decide +kernel)) (fun _ h9 => h9) rfl dX5_mapped_92 ?_
          have hn16 : ¬ y0_p = 0 := fun hz => absurd ((if_pos hz).symm.trans h) (fun hh => nomatch hh)
          replace h := (if_neg hn16).symm.trans h
          refine lv_irem hx hb dX5_mapped_95 hn16 ?_
          refine lv_topi (fun v17 ev17 => ?_)
          replace h := mi_use ev17 h
          obtain ⟨r18, hr18, h⟩ := Option.bind_eq_some_iff.mp h
          refine vp_callSi (W.runS (As := [.int v14, .int v17]) (rest := []) ⟨hx, hb, hml, hown, hts⟩ (ctX5_pair l N  v14 v17 r18 hr18) (va_cwS 2 hts gX5_mapped_X5_pair rfl rfl rfl (by decide +kernel) ⟨Nat.le_of_ble_eq_true rfl, Nat.le_of_ble_eq_true rfl⟩) preEq rfl rfl hl.1 rfl (lv_room (Nat.le_of_ble_eq_true rfl)) dX5_mapped_96 ⟨Nat.le_of_ble_eq_true rfl, Nat.le_of_ble_eq_true rfl⟩) (fun q9 eq9 => ?_)
          subst q9
          have hv : r18 = rr := Option.some.inj h
          exact W.iret (v := r18) hx hb hr (fun t ht hW => ⟨_, rfl, hv, ht⟩) (fun q hq => absurd hq List.not_mem_nil) dX5_mapped_99
        · replace h := (if_pos c7).symm.trans h
          refine lv_iconst (v := (-1)) hx hb dX5_mapped_45 (by decide) ?_
          have hv : (-1) = rr := Option.some.inj h
          exact W.iret (v := (-1)) hx hb hr (fun t ht hW => ⟨_, rfl, hv, ht⟩) (fun q hq => absurd hq List.not_mem_nil) dX5_mapped_46
      · replace h := (if_pos c6).symm.trans h
        refine lv_bipush (v := (-2)) hx hb dX5_mapped_37 (by decide) ?_
        have hv : (-2) = rr := Option.some.inj h
        exact W.iret (v := (-2)) hx hb hr (fun t ht hW => ⟨_, rfl, hv, ht⟩) (fun q hq => absurd hq List.not_mem_nil) dX5_mapped_39
def mX5_root_s (N : Nat) (t_roots_prime : Int32) (t_roots_least : Nat → Int32) (y0_p : Int32) (a0 : Int32) (a1 : Int32) : Option (Int32 × Int32 × (Nat → Int32)) := (mJ9_floorMod_7cf53 N a1 y0_p).bind (fun r2 => (mX1_leastRoot N t_roots_prime t_roots_least r2 y0_p).bind (fun r3 => match r3 with | (r6, u4, f5) => some (r6, u4, f5)))
abbrev rmX5_root_s : Room := { frames := 2, cells := 0, slots := 0, locals := 44 }
set_option maxHeartbeats 4000000 in
set_option maxRecDepth 100000 in
theorem ctX5_root_s (l : Launch) (N : Nat) (dC : Nat → ClassId) (dI : Nat → Nat → Nat) (sz : Nat) (h0 : Nat) (h0_held : Nat) (h0_roots : Nat) (h0_roots_least : Nat) (y0 : Nat) (h0_survey : Nat) (k_t_held : ClassId) (k_t_roots_least : ClassId) (t_size : Int32) (t_held : Nat → Option Nat) (t_roots_prime : Int32) (t_roots_least : Nat → Int32) (y0_p : Int32) (y0_a : Int32) (y0_b : Int32) (y0_from : Int32) (y0_kernelPoint : Int32) (y0_kernelOrder : Int32) (y0_points : Int32) (y0_inner : Int32) (y0_outer : Int32) (y0_makersFound : Int32) (y0_first : Int32) (y0_second : Int32) (a0 : Int32) (a1 : Int32) (rr : Int32 × Int32 × (Nat → Int32)) (h : mX5_root_s N t_roots_prime t_roots_least y0_p a0 a1 = some rr) (hk0 : mX5_at N t_size t_held a0 = some (some y0)) : Met l yX5_root wsX5_root rmX5_root_s (va_Pc [.ref h0, .int a0, .int a1] (fun U => U.heap.size = sz ∧ va_P (dC, dI) vwCl [(h0, .inr (4, [.ref h0_held, .int t_size, .ref h0_roots, .ref h0_survey])), (h0_held, .inl (k_t_held, 24, .inr (.inr (.inr (.inr t_held))))), (h0_roots, .inr (1, [.ref h0_roots_least, .int t_roots_prime])), (h0_roots_least, .inl (k_t_roots_least, 10007, .inl t_roots_least)), (y0, .inr (0, [.int y0_p, .int y0_a, .int y0_b, .int y0_from, .int y0_kernelPoint, .int y0_kernelOrder, .int y0_points, .int y0_inner, .int y0_outer, .int y0_makersFound, .int y0_first, .int y0_second]))] U.heap ∧ va_K (dC, dI) vwCl [(k_t_held, .object "PointRings$Curve"), (k_t_roots_least, .int)] U ∧ nw_all U ∧ va_D (fun _ => True) [(h0, .inr (4, [.ref h0_held, .int t_size, .ref h0_roots, .ref h0_survey])), (h0_held, .inl (k_t_held, 24, .inr (.inr (.inr (.inr t_held))))), (h0_roots, .inr (1, [.ref h0_roots_least, .int t_roots_prime])), (h0_roots_least, .inl (k_t_roots_least, 10007, .inl t_roots_least)), (y0, .inr (0, [.int y0_p, .int y0_a, .int y0_b, .int y0_from, .int y0_kernelPoint, .int y0_kernelOrder, .int y0_points, .int y0_inner, .int y0_outer, .int y0_makersFound, .int y0_first, .int y0_second]))])) (va_Qi (fun (r : Int32) (u : Int32 × (Nat → Int32)) => (r, u) = rr) (fun (u : Int32 × (Nat → Int32)) t => match u with | (u0, u1) => va_P (dC, dI) vwCl [(h0, .inr (4, [.ref h0_held, .int t_size, .ref h0_roots, .ref h0_survey])), (h0_held, .inl (k_t_held, 24, .inr (.inr (.inr (.inr t_held))))), (h0_roots, .inr (1, [.ref h0_roots_least, .int u0])), (h0_roots_least, .inl (k_t_roots_least, 10007, .inl u1)), (y0, .inr (0, [.int y0_p, .int y0_a, .int y0_b, .int y0_from, .int y0_kernelPoint, .int y0_kernelOrder, .int y0_points, .int y0_inner, .int y0_outer, .int y0_makersFound, .int y0_first, .int y0_second]))] t.heap ∧ va_K (dC, dI) vwCl [(k_t_held, .object "PointRings$Curve"), (k_t_roots_least, .int)] t ∧ va_D (va_A [(h0, .inr (4, [.ref h0_held, .int t_size, .ref h0_roots, .ref h0_survey])), (h0_held, .inl (k_t_held, 24, .inr (.inr (.inr (.inr t_held))))), (h0_roots, .inr (1, [.ref h0_roots_least, .int t_roots_prime])), (h0_roots_least, .inl (k_t_roots_least, 10007, .inl t_roots_least)), (y0, .inr (0, [.int y0_p, .int y0_a, .int y0_b, .int y0_from, .int y0_kernelPoint, .int y0_kernelOrder, .int y0_points, .int y0_inner, .int y0_outer, .int y0_makersFound, .int y0_first, .int y0_second]))] sz) [(h0, .inr (4, [.ref h0_held, .int t_size, .ref h0_roots, .ref h0_survey])), (h0_held, .inl (k_t_held, 24, .inr (.inr (.inr (.inr t_held))))), (h0_roots, .inr (1, [.ref h0_roots_least, .int u0])), (h0_roots_least, .inl (k_t_roots_least, 10007, .inl u1)), (y0, .inr (0, [.int y0_p, .int y0_a, .int y0_b, .int y0_from, .int y0_kernelPoint, .int y0_kernelOrder, .int y0_points, .int y0_inner, .int y0_outer, .int y0_makersFound, .int y0_first, .int y0_second]))]) (va_A [(h0, .inr (4, [.ref h0_held, .int t_size, .ref h0_roots, .ref h0_survey])), (h0_held, .inl (k_t_held, 24, .inr (.inr (.inr (.inr t_held))))), (h0_roots, .inr (1, [.ref h0_roots_least, .int t_roots_prime])), (h0_roots_least, .inl (k_t_roots_least, 10007, .inl t_roots_least)), (y0, .inr (0, [.int y0_p, .int y0_a, .int y0_b, .int y0_from, .int y0_kernelPoint, .int y0_kernelOrder, .int y0_points, .int y0_inner, .int y0_outer, .int y0_makersFound, .int y0_first, .int y0_second]))] sz)) 0 0 (va_A [(h0, .inr (4, [.ref h0_held, .int t_size, .ref h0_roots, .ref h0_survey])), (h0_held, .inl (k_t_held, 24, .inr (.inr (.inr (.inr t_held))))), (h0_roots, .inr (1, [.ref h0_roots_least, .int t_roots_prime])), (h0_roots_least, .inl (k_t_roots_least, 10007, .inl t_roots_least)), (y0, .inr (0, [.int y0_p, .int y0_a, .int y0_b, .int y0_from, .int y0_kernelPoint, .int y0_kernelOrder, .int y0_points, .int y0_inner, .int y0_outer, .int y0_makersFound, .int y0_first, .int y0_second]))] sz) := by
  refine Met.ofW (cc := cX5_root) (maxL := 4) (ret := (some .int)) (by decide) rfl ?_
  intro p e s m args below meth c s₁ B hml hv
  obtain ⟨rfl, hsz, hP, hK, hN, hD0⟩ := hv
  have hx := B.exec
  have hb := B.bytes
  have hr := B.returns
  have hts := atoms_spec (ws := wsX5_root) B.pre
  have hown : s.vm.findClass RX5 = some m.cls := findClass_of_methodNamed B.named
  have hlocks := B.notSynchronized
  subst hsz
  have hD := hD0.self (sz := s.heap.size)
  generalize hAe : va_A [(h0, .inr (4, [.ref h0_held, .int t_size, .ref h0_roots, .ref h0_survey])), (h0_held, .inl (k_t_held, 24, .inr (.inr (.inr (.inr t_held))))), (h0_roots, .inr (1, [.ref h0_roots_least, .int t_roots_prime])), (h0_roots_least, .inl (k_t_roots_least, 10007, .inl t_roots_least)), (y0, .inr (0, [.int y0_p, .int y0_a, .int y0_b, .int y0_from, .int y0_kernelPoint, .int y0_kernelOrder, .int y0_points, .int y0_inner, .int y0_outer, .int y0_makersFound, .int y0_first, .int y0_second]))] s.heap.size = A at hD ⊢
  have hA0 : ∀ q : Nat, s.heap.size ≤ q → A q := fun q h => by rw [← hAe]; exact Or.inr h
  have hS : va_S A s.heap s.heap [] := va_S.rf
  have hP : va_P (dC, dI) vwCl [(h0, .inr (4, [.ref h0_held, .int t_size, .ref h0_roots, .ref h0_survey])), (h0_held, .inl (k_t_held, 24, .inr (.inr (.inr (.inr t_held))))), (h0_roots, .inr (1, [.ref h0_roots_least, .int t_roots_prime])), (h0_roots_least, .inl (k_t_roots_least, 10007, .inl t_roots_least)), (y0, .inr (0, [.int y0_p, .int y0_a, .int y0_b, .int y0_from, .int y0_kernelPoint, .int y0_kernelOrder, .int y0_points, .int y0_inner, .int y0_outer, .int y0_makersFound, .int y0_first, .int y0_second]))] s.heap := hP
  have hl := lv_entry ([.ref h0, .int a0, .int a1]) (n := 4) (Nat.le_of_ble_eq_true rfl)
  rw [lg_entry_eq]
  generalize (lg_sl ([.ref h0, .int a0, .int a1]) ++ List.replicate (4 - (lg_sl ([.ref h0, .int a0, .int a1])).length) Slot.unset).toArray = ls at hl ⊢
  have hl : lv_has ls 4 [(0, .ref h0), (1, .int a0), (2, .int a1)] := hl
  dsimp only [mX5_root_s] at h
  refine lv_aload_n hx hb dX5_root_0 rfl (lv_at hl 0 rfl) ?_
  refine lv_iload_n hx hb dX5_root_1 rfl (lv_at hl 1 rfl) ?_
  have hPc := hP.sub (ws' := [(h0, .inr (4, [.ref h0_held, .int t_size, .ref h0_roots, .ref h0_survey])), (h0_held, .inl (k_t_held, 24, .inr (.inr (.inr (.inr t_held)))))]) [0, 1] rfl
  have hKc := hK.sub (tys' := [(k_t_held, .object "PointRings$Curve")]) [0] rfl
  refine va_csq (W.runV (As := [.int a0]) (rest := []) ⟨hx, hb, hml, hown, hts⟩ (ctX5_at l N dC dI  h0 h0_held h0_roots h0_survey k_t_held t_size t_held a0 (some y0) hk0) (cwV 1 hts gX5_root_X5_at rfl rfl rfl (by decide +kernel) ⟨Nat.le_of_ble_eq_true rfl, Nat.le_of_ble_eq_true rfl⟩) ⟨fun a U g mk q => by obtain ⟨q0, qP, qK, qN⟩ := q; exact ⟨q0, qP, va_K.moved (u := U) (U := U.calling g mk a) (Vm.Alike.refl U.vm) qK, nw_same (u := U) (U := U.calling g mk a) rfl qN⟩, va_recv hKc hPc (ci := 4) (q0 := 0) rfl rfl, fun U hU hW => ⟨rfl, by rw [hU]; exact hPc, va_K.moved hW.alike hKc, nw_warm hW hN⟩⟩ rfl rfl hl.1 rfl (lv_room (Nat.le_of_ble_eq_true rfl)) dX5_root_2 ⟨Nat.le_of_ble_eq_true rfl, Nat.le_of_ble_eq_true rfl⟩) (fun q9 eq9 => ?_)
  subst q9
  refine lv_astore_n (lv' := [(3, .ref y0), (0, .ref h0), (1, .int a0), (2, .int a1)]) hx hb dX5_root_5 rfl hl (by decide) rfl (fun ls hl => ?_)
  refine lv_aload_n hx hb dX5_root_6 rfl (lv_at hl 0 rfl) ?_
  refine lv_ifnonnull (tgt := 15) hx hb dX5_root_7 (by decide) ?_
  refine lv_aload_n hx hb dX5_root_15 rfl (lv_at hl 1 rfl) ?_
  refine va_get (D := (dC, dI)) (ci := 4) (v := .ref h0_roots) (C := RX5) (T := TX5) (N := 4) hx hb hts (by decide +kernel) hown hK hP 0 rfl rfl 2 (by decide) (hts (.fieldLink RX5 22 "PointRings" "roots" "LPointRings$Roots;") (by decide +kernel)) (fun _ h9 => h9) rfl dX5_root_16 ?_
  refine lv_iload_n hx hb dX5_root_19 rfl (lv_at hl 3 rfl) ?_
  refine lv_aload_n hx hb dX5_root_20 rfl (lv_at hl 0 rfl) ?_
  refine va_get (D := (dC, dI)) (ci := 0) (v := .int y0_p) (C := RX0) (T := TX0) (N := 12) hx hb hts (by decide +kernel) hown hK hP 4 rfl rfl 0 (by decide) (hts (.fieldLink RX5 60 "PointRings$Curve" "p" "I") (by decide +kernel)) (fun _ h9 => h9) rfl dX5_root_21 ?_
  obtain ⟨r2, hr2, h⟩ := Option.bind_eq_some_iff.mp h
  refine vp_callSi (W.runS (As := [.int a1, .int y0_p]) (rest := [.ref h0_roots]) ⟨hx, hb, hml, hown, hts⟩ (ctJ9_floorMod_7cf53 l N  a1 y0_p r2 hr2) (va_cwS 2 hts gX5_root_J9_floorMod_7cf53 rfl rfl rfl (by decide +kernel) ⟨Nat.le_of_ble_eq_true rfl, Nat.le_of_ble_eq_true rfl⟩) preEq rfl rfl hl.1 rfl (lv_room (Nat.le_of_ble_eq_true rfl)) dX5_root_24 ⟨Nat.le_of_ble_eq_true rfl, Nat.le_of_ble_eq_true rfl⟩) (fun q9 eq9 => ?_)
  subst q9
  refine lv_aload_n hx hb dX5_root_27 rfl (lv_at hl 0 rfl) ?_
  refine va_get (D := (dC, dI)) (ci := 0) (v := .int y0_p) (C := RX0) (T := TX0) (N := 12) hx hb hts (by decide +kernel) hown hK hP 4 rfl rfl 0 (by decide) (hts (.fieldLink RX5 60 "PointRings$Curve" "p" "I") (by decide +kernel)) (fun _ h9 => h9) rfl dX5_root_28 ?_
  obtain ⟨r3, hr3, h⟩ := Option.bind_eq_some_iff.mp h
  have hPc := hP.sub (ws' := [(h0_roots, .inr (1, [.ref h0_roots_least, .int t_roots_prime])), (h0_roots_least, .inl (k_t_roots_least, 10007, .inl t_roots_least))]) [2, 3] rfl
  have hDc := hD.sub (ws' := [(h0_roots, .inr (1, [.ref h0_roots_least, .int t_roots_prime])), (h0_roots_least, .inl (k_t_roots_least, 10007, .inl t_roots_least))]) [2, 3] (by decide) rfl
  have hKc := hK.sub (tys' := [(k_t_roots_least, .int)]) [1] rfl
  have hFc := va_free (wc := [(h0_roots, .inr (1, [.ref h0_roots_least, .int t_roots_prime])), (h0_roots_least, .inl (k_t_roots_least, 10007, .inl t_roots_least))]) hD hS hA0 [2, 3] rfl
  refine va_calli (va_runV (As := [.int r2, .int y0_p]) (rest := []) ⟨hx, hb, hml, hown, hts⟩ (ctX1_leastRoot l N dC dI _ h0_roots h0_roots_least k_t_roots_least t_roots_prime t_roots_least r2 y0_p r3 hr3) (cwV 2 hts gX5_root_X1_leastRoot rfl rfl rfl (by decide +kernel) ⟨Nat.le_of_ble_eq_true rfl, Nat.le_of_ble_eq_true rfl⟩) ⟨fun a U g mk q => by obtain ⟨q0, q1, qP, qK, qN, qD⟩ := q; exact ⟨q0, q1, qP, va_K.moved (u := U) (U := U.calling g mk a) (Vm.Alike.refl U.vm) qK, nw_same (u := U) (U := U.calling g mk a) rfl qN, qD⟩, va_recv hKc hPc (ci := 1) (q0 := 0) rfl rfl, fun U hU hW => ⟨rfl, by rw [hU], by rw [hU]; exact hPc, va_K.moved hW.alike hKc, nw_warm hW hN, hDc.weaken (fun _ _ _ _ => trivial)⟩⟩ rfl rfl hl.1 rfl (lv_room (Nat.le_of_ble_eq_true rfl)) dX5_root_31 ⟨Nat.le_of_ble_eq_true rfl, Nat.le_of_ble_eq_true rfl⟩) hS (fun q _ h => hFc q h) hFc (fun rz u t H1 locs ht hvm hw hB1 hz1 hk1 hS => ?_)
  obtain ⟨u4, f5⟩ := u
  obtain ⟨hP1, hK1, hD1⟩ := hB1
  rw [ht] at hP1
  have hK1 := va_K.moved hvm.symm hK1
  obtain ⟨r6, rfl⟩ : ∃ z, z = rz := ⟨_, rfl⟩
  subst hw
  try dsimp only at h
  obtain ⟨hP, hD⟩ := va_join (wr := [(h0, .inr (4, [.ref h0_held, .int t_size, .ref h0_roots, .ref h0_survey])), (h0_held, .inl (k_t_held, 24, .inr (.inr (.inr (.inr t_held))))), (y0, .inr (0, [.int y0_p, .int y0_a, .int y0_b, .int y0_from, .int y0_kernelPoint, .int y0_kernelOrder, .int y0_points, .int y0_inner, .int y0_outer, .int y0_makersFound, .int y0_first, .int y0_second]))]) (w1 := [(h0_roots, .inr (1, [.ref h0_roots_least, .int u4])), (h0_roots_least, .inl (k_t_roots_least, 10007, .inl f5))]) hP hD [2, 3] [0, 1, 4] rfl rfl (by decide) (by decide) hk1 hFc hP1 hD1
  generalize H1 = H at hP hS ⊢
  have hP := hP.sub (ws' := [(h0, .inr (4, [.ref h0_held, .int t_size, .ref h0_roots, .ref h0_survey])), (h0_held, .inl (k_t_held, 24, .inr (.inr (.inr (.inr t_held))))), (h0_roots, .inr (1, [.ref h0_roots_least, .int u4])), (h0_roots_least, .inl (k_t_roots_least, 10007, .inl f5)), (y0, .inr (0, [.int y0_p, .int y0_a, .int y0_b, .int y0_from, .int y0_kernelPoint, .int y0_kernelOrder, .int y0_points, .int y0_inner, .int y0_outer, .int y0_makersFound, .int y0_first, .int y0_second]))]) [0, 1, 3, 4, 2] rfl
  have hD := hD.sub (ws' := [(h0, .inr (4, [.ref h0_held, .int t_size, .ref h0_roots, .ref h0_survey])), (h0_held, .inl (k_t_held, 24, .inr (.inr (.inr (.inr t_held))))), (h0_roots, .inr (1, [.ref h0_roots_least, .int u4])), (h0_roots_least, .inl (k_t_roots_least, 10007, .inl f5)), (y0, .inr (0, [.int y0_p, .int y0_a, .int y0_b, .int y0_from, .int y0_kernelPoint, .int y0_kernelOrder, .int y0_points, .int y0_inner, .int y0_outer, .int y0_makersFound, .int y0_first, .int y0_second]))]) [0, 1, 3, 4, 2] (by decide) rfl
  have hv : (r6, u4, f5) = rr := Option.some.inj h
  have hP9 := hP.sub (ws' := [(h0, .inr (4, [.ref h0_held, .int t_size, .ref h0_roots, .ref h0_survey])), (h0_held, .inl (k_t_held, 24, .inr (.inr (.inr (.inr t_held))))), (h0_roots, .inr (1, [.ref h0_roots_least, .int u4])), (h0_roots_least, .inl (k_t_roots_least, 10007, .inl f5)), (y0, .inr (0, [.int y0_p, .int y0_a, .int y0_b, .int y0_from, .int y0_kernelPoint, .int y0_kernelOrder, .int y0_points, .int y0_inner, .int y0_outer, .int y0_makersFound, .int y0_first, .int y0_second]))]) [0, 1, 2, 3, 4] rfl
  have hD9 := hD.sub (ws' := [(h0, .inr (4, [.ref h0_held, .int t_size, .ref h0_roots, .ref h0_survey])), (h0_held, .inl (k_t_held, 24, .inr (.inr (.inr (.inr t_held))))), (h0_roots, .inr (1, [.ref h0_roots_least, .int u4])), (h0_roots_least, .inl (k_t_roots_least, 10007, .inl f5)), (y0, .inr (0, [.int y0_p, .int y0_a, .int y0_b, .int y0_from, .int y0_kernelPoint, .int y0_kernelOrder, .int y0_points, .int y0_inner, .int y0_outer, .int y0_makersFound, .int y0_first, .int y0_second]))]) [0, 1, 2, 3, 4] (by decide) rfl
  have hK9 := hK.sub (tys' := [(k_t_held, .object "PointRings$Curve"), (k_t_roots_least, .int)]) [0, 1] rfl
  exact W.iret (v := r6) hx hb hr (fun t ht hW => ⟨⟨r6, (u4, f5), rfl, hv, by rw [ht]; exact hP9, va_K.moved hW.alike hK9, hD9⟩, hS.F ht⟩) hS.2.2 dX5_root_34
def mX5_generator_s (N : Nat) (y0_p : Int32) (a0 : Int32) : Option (Int32) := (mX4_leastGenerator N y0_p).bind (fun r2 => some r2)
abbrev rmX5_generator_s : Room := { frames := 3, cells := 0, slots := 0, locals := 73 }
set_option maxHeartbeats 4000000 in
set_option maxRecDepth 100000 in
theorem ctX5_generator_s (l : Launch) (N : Nat) (dC : Nat → ClassId) (dI : Nat → Nat → Nat) (h0 : Nat) (h0_held : Nat) (y0 : Nat) (h0_roots : Nat) (h0_survey : Nat) (k_t_held : ClassId) (t_size : Int32) (t_held : Nat → Option Nat) (y0_p : Int32) (y0_a : Int32) (y0_b : Int32) (y0_from : Int32) (y0_kernelPoint : Int32) (y0_kernelOrder : Int32) (y0_points : Int32) (y0_inner : Int32) (y0_outer : Int32) (y0_makersFound : Int32) (y0_first : Int32) (y0_second : Int32) (a0 : Int32) (rr : Int32) (h : mX5_generator_s N y0_p a0 = some rr) (hk0 : mX5_at N t_size t_held a0 = some (some y0)) : Met l yX5_generator wsX5_generator rmX5_generator_s (va_Pc [.ref h0, .int a0] (fun U => va_P (dC, dI) vwCl [(h0, .inr (4, [.ref h0_held, .int t_size, .ref h0_roots, .ref h0_survey])), (h0_held, .inl (k_t_held, 24, .inr (.inr (.inr (.inr t_held))))), (y0, .inr (0, [.int y0_p, .int y0_a, .int y0_b, .int y0_from, .int y0_kernelPoint, .int y0_kernelOrder, .int y0_points, .int y0_inner, .int y0_outer, .int y0_makersFound, .int y0_first, .int y0_second]))] U.heap ∧ va_K (dC, dI) vwCl [(k_t_held, .object "PointRings$Curve")] U ∧ nw_all U)) (vp_Si (fun r => r = rr)) 0 0 (fun _ => False) := by
  refine Met.ofW (cc := cX5_generator) (maxL := 3) (ret := (some .int)) (by decide) rfl ?_
  intro p e s m args below meth c s₁ B hml hv
  obtain ⟨rfl, hP, hK, hN⟩ := hv
  have hx := B.exec
  have hb := B.bytes
  have hr := B.returns
  have hts := atoms_spec (ws := wsX5_generator) B.pre
  have hown : s.vm.findClass RX5 = some m.cls := findClass_of_methodNamed B.named
  have hlocks := B.notSynchronized
  have hl := lv_entry ([.ref h0, .int a0]) (n := 3) (Nat.le_of_ble_eq_true rfl)
  rw [lg_entry_eq]
  generalize (lg_sl ([.ref h0, .int a0]) ++ List.replicate (3 - (lg_sl ([.ref h0, .int a0])).length) Slot.unset).toArray = ls at hl ⊢
  have hl : lv_has ls 3 [(0, .ref h0), (1, .int a0)] := hl
  dsimp only [mX5_generator_s] at h
  refine lv_aload_n hx hb dX5_generator_0 rfl (lv_at hl 0 rfl) ?_
  refine lv_iload_n hx hb dX5_generator_1 rfl (lv_at hl 1 rfl) ?_
  have hPc := hP.sub (ws' := [(h0, .inr (4, [.ref h0_held, .int t_size, .ref h0_roots, .ref h0_survey])), (h0_held, .inl (k_t_held, 24, .inr (.inr (.inr (.inr t_held)))))]) [0, 1] rfl
  have hKc := hK.sub (tys' := [(k_t_held, .object "PointRings$Curve")]) [0] rfl
  refine va_csq (W.runV (As := [.int a0]) (rest := []) ⟨hx, hb, hml, hown, hts⟩ (ctX5_at l N dC dI  h0 h0_held h0_roots h0_survey k_t_held t_size t_held a0 (some y0) hk0) (cwV 1 hts gX5_generator_X5_at rfl rfl rfl (by decide +kernel) ⟨Nat.le_of_ble_eq_true rfl, Nat.le_of_ble_eq_true rfl⟩) ⟨fun a U g mk q => by obtain ⟨q0, qP, qK, qN⟩ := q; exact ⟨q0, qP, va_K.moved (u := U) (U := U.calling g mk a) (Vm.Alike.refl U.vm) qK, nw_same (u := U) (U := U.calling g mk a) rfl qN⟩, va_recv hKc hPc (ci := 4) (q0 := 0) rfl rfl, fun U hU hW => ⟨rfl, by rw [hU]; exact hPc, va_K.moved hW.alike hKc, nw_warm hW hN⟩⟩ rfl rfl hl.1 rfl (lv_room (Nat.le_of_ble_eq_true rfl)) dX5_generator_2 ⟨Nat.le_of_ble_eq_true rfl, Nat.le_of_ble_eq_true rfl⟩) (fun q9 eq9 => ?_)
  subst q9
  refine lv_astore_n (lv' := [(2, .ref y0), (0, .ref h0), (1, .int a0)]) hx hb dX5_generator_5 rfl hl (by decide) rfl (fun ls hl => ?_)
  refine lv_aload_n hx hb dX5_generator_6 rfl (lv_at hl 0 rfl) ?_
  refine lv_ifnonnull (tgt := 15) hx hb dX5_generator_7 (by decide) ?_
  refine lv_aload_n hx hb dX5_generator_15 rfl (lv_at hl 0 rfl) ?_
  refine va_get (D := (dC, dI)) (ci := 0) (v := .int y0_p) (C := RX0) (T := TX0) (N := 12) hx hb hts (by decide +kernel) hown hK hP 2 rfl rfl 0 (by decide) (hts (.fieldLink RX5 60 "PointRings$Curve" "p" "I") (by decide +kernel)) (fun _ h9 => h9) rfl dX5_generator_16 ?_
  obtain ⟨r2, hr2, h⟩ := Option.bind_eq_some_iff.mp h
  refine vp_callSi (W.runS (As := [.int y0_p]) (rest := []) ⟨hx, hb, hml, hown, hts⟩ (ctX4_leastGenerator l N  y0_p r2 hr2) (va_cwS 1 hts gX5_generator_X4_leastGenerator rfl rfl rfl (by decide +kernel) ⟨Nat.le_of_ble_eq_true rfl, Nat.le_of_ble_eq_true rfl⟩) preEq rfl rfl hl.1 rfl (lv_room (Nat.le_of_ble_eq_true rfl)) dX5_generator_19 ⟨Nat.le_of_ble_eq_true rfl, Nat.le_of_ble_eq_true rfl⟩) (fun q9 eq9 => ?_)
  subst q9
  have hv : r2 = rr := Option.some.inj h
  exact W.iret (v := r2) hx hb hr (fun t ht hW => ⟨_, rfl, hv, ht⟩) (fun q hq => absurd hq List.not_mem_nil) dX5_generator_22
def mX5_lift_s (N : Nat) (t_roots_prime : Int32) (t_roots_least : Nat → Int32) (y0_p : Int32) (y0_a : Int32) (y0_b : Int32) (a0 : Int32) (a1 : Int32) (a2 : Int32) : Option (Int32 × Int32 × (Nat → Int32)) := (mX4_isBelow N a1 y0_p).bind (fun r2 => if r2 = 0 then some ((-2), t_roots_prime, t_roots_least) else (mX0_cubic N y0_p y0_a y0_b a1).bind (fun r4 => (mX1_leastRoot N t_roots_prime t_roots_least r4 y0_p).bind (fun r5 => match r5 with | (r8, u6, f7) => if r8 < 0 then some ((-1), u6, f7) else if r8 = 0 then if a2 = 0 then mi_let (mi_rem r8 2) (fun v20 => if v20 = 1 then if 1 = a2 then (mX5_pair N a1 r8).bind (fun r27 => some (r27, u6, f7)) else (mX5_pair N a1 (y0_p - r8)).bind (fun r26 => some (r26, u6, f7)) else if 0 = a2 then (mX5_pair N a1 r8).bind (fun r24 => some (r24, u6, f7)) else (mX5_pair N a1 (y0_p - r8)).bind (fun r23 => some (r23, u6, f7))) else some ((-1), u6, f7) else mi_let (mi_rem r8 2) (fun v11 => if v11 = 1 then if 1 = a2 then (mX5_pair N a1 r8).bind (fun r18 => some (r18, u6, f7)) else (mX5_pair N a1 (y0_p - r8)).bind (fun r17 => some (r17, u6, f7)) else if 0 = a2 then (mX5_pair N a1 r8).bind (fun r15 => some (r15, u6, f7)) else (mX5_pair N a1 (y0_p - r8)).bind (fun r14 => some (r14, u6, f7))))))
abbrev rmX5_lift_s : Room := { frames := 2, cells := 0, slots := 0, locals := 44 }
set_option maxHeartbeats 4000000 in
set_option maxRecDepth 100000 in
theorem ctX5_lift_s (l : Launch) (N : Nat) (dC : Nat → ClassId) (dI : Nat → Nat → Nat) (sz : Nat) (h0 : Nat) (h0_held : Nat) (h0_roots : Nat) (h0_roots_least : Nat) (y0 : Nat) (h0_survey : Nat) (k_t_held : ClassId) (k_t_roots_least : ClassId) (t_size : Int32) (t_held : Nat → Option Nat) (t_roots_prime : Int32) (t_roots_least : Nat → Int32) (y0_p : Int32) (y0_a : Int32) (y0_b : Int32) (y0_from : Int32) (y0_kernelPoint : Int32) (y0_kernelOrder : Int32) (y0_points : Int32) (y0_inner : Int32) (y0_outer : Int32) (y0_makersFound : Int32) (y0_first : Int32) (y0_second : Int32) (a0 : Int32) (a1 : Int32) (a2 : Int32) (rr : Int32 × Int32 × (Nat → Int32)) (h : mX5_lift_s N t_roots_prime t_roots_least y0_p y0_a y0_b a0 a1 a2 = some rr) (hk0 : mX5_at N t_size t_held a0 = some (some y0)) : Met l yX5_lift wsX5_lift rmX5_lift_s (va_Pc [.ref h0, .int a0, .int a1, .int a2] (fun U => U.heap.size = sz ∧ va_P (dC, dI) vwCl [(h0, .inr (4, [.ref h0_held, .int t_size, .ref h0_roots, .ref h0_survey])), (h0_held, .inl (k_t_held, 24, .inr (.inr (.inr (.inr t_held))))), (h0_roots, .inr (1, [.ref h0_roots_least, .int t_roots_prime])), (h0_roots_least, .inl (k_t_roots_least, 10007, .inl t_roots_least)), (y0, .inr (0, [.int y0_p, .int y0_a, .int y0_b, .int y0_from, .int y0_kernelPoint, .int y0_kernelOrder, .int y0_points, .int y0_inner, .int y0_outer, .int y0_makersFound, .int y0_first, .int y0_second]))] U.heap ∧ va_K (dC, dI) vwCl [(k_t_held, .object "PointRings$Curve"), (k_t_roots_least, .int)] U ∧ nw_all U ∧ va_D (fun _ => True) [(h0, .inr (4, [.ref h0_held, .int t_size, .ref h0_roots, .ref h0_survey])), (h0_held, .inl (k_t_held, 24, .inr (.inr (.inr (.inr t_held))))), (h0_roots, .inr (1, [.ref h0_roots_least, .int t_roots_prime])), (h0_roots_least, .inl (k_t_roots_least, 10007, .inl t_roots_least)), (y0, .inr (0, [.int y0_p, .int y0_a, .int y0_b, .int y0_from, .int y0_kernelPoint, .int y0_kernelOrder, .int y0_points, .int y0_inner, .int y0_outer, .int y0_makersFound, .int y0_first, .int y0_second]))])) (va_Qi (fun (r : Int32) (u : Int32 × (Nat → Int32)) => (r, u) = rr) (fun (u : Int32 × (Nat → Int32)) t => match u with | (u0, u1) => va_P (dC, dI) vwCl [(h0, .inr (4, [.ref h0_held, .int t_size, .ref h0_roots, .ref h0_survey])), (h0_held, .inl (k_t_held, 24, .inr (.inr (.inr (.inr t_held))))), (h0_roots, .inr (1, [.ref h0_roots_least, .int u0])), (h0_roots_least, .inl (k_t_roots_least, 10007, .inl u1)), (y0, .inr (0, [.int y0_p, .int y0_a, .int y0_b, .int y0_from, .int y0_kernelPoint, .int y0_kernelOrder, .int y0_points, .int y0_inner, .int y0_outer, .int y0_makersFound, .int y0_first, .int y0_second]))] t.heap ∧ va_K (dC, dI) vwCl [(k_t_held, .object "PointRings$Curve"), (k_t_roots_least, .int)] t ∧ va_D (va_A [(h0, .inr (4, [.ref h0_held, .int t_size, .ref h0_roots, .ref h0_survey])), (h0_held, .inl (k_t_held, 24, .inr (.inr (.inr (.inr t_held))))), (h0_roots, .inr (1, [.ref h0_roots_least, .int t_roots_prime])), (h0_roots_least, .inl (k_t_roots_least, 10007, .inl t_roots_least)), (y0, .inr (0, [.int y0_p, .int y0_a, .int y0_b, .int y0_from, .int y0_kernelPoint, .int y0_kernelOrder, .int y0_points, .int y0_inner, .int y0_outer, .int y0_makersFound, .int y0_first, .int y0_second]))] sz) [(h0, .inr (4, [.ref h0_held, .int t_size, .ref h0_roots, .ref h0_survey])), (h0_held, .inl (k_t_held, 24, .inr (.inr (.inr (.inr t_held))))), (h0_roots, .inr (1, [.ref h0_roots_least, .int u0])), (h0_roots_least, .inl (k_t_roots_least, 10007, .inl u1)), (y0, .inr (0, [.int y0_p, .int y0_a, .int y0_b, .int y0_from, .int y0_kernelPoint, .int y0_kernelOrder, .int y0_points, .int y0_inner, .int y0_outer, .int y0_makersFound, .int y0_first, .int y0_second]))]) (va_A [(h0, .inr (4, [.ref h0_held, .int t_size, .ref h0_roots, .ref h0_survey])), (h0_held, .inl (k_t_held, 24, .inr (.inr (.inr (.inr t_held))))), (h0_roots, .inr (1, [.ref h0_roots_least, .int t_roots_prime])), (h0_roots_least, .inl (k_t_roots_least, 10007, .inl t_roots_least)), (y0, .inr (0, [.int y0_p, .int y0_a, .int y0_b, .int y0_from, .int y0_kernelPoint, .int y0_kernelOrder, .int y0_points, .int y0_inner, .int y0_outer, .int y0_makersFound, .int y0_first, .int y0_second]))] sz)) 0 0 (va_A [(h0, .inr (4, [.ref h0_held, .int t_size, .ref h0_roots, .ref h0_survey])), (h0_held, .inl (k_t_held, 24, .inr (.inr (.inr (.inr t_held))))), (h0_roots, .inr (1, [.ref h0_roots_least, .int t_roots_prime])), (h0_roots_least, .inl (k_t_roots_least, 10007, .inl t_roots_least)), (y0, .inr (0, [.int y0_p, .int y0_a, .int y0_b, .int y0_from, .int y0_kernelPoint, .int y0_kernelOrder, .int y0_points, .int y0_inner, .int y0_outer, .int y0_makersFound, .int y0_first, .int y0_second]))] sz) := by
  refine Met.ofW (cc := cX5_lift) (maxL := 6) (ret := (some .int)) (by decide) rfl ?_
  intro p e s m args below meth c s₁ B hml hv
  obtain ⟨rfl, hsz, hP, hK, hN, hD0⟩ := hv
  have hx := B.exec
  have hb := B.bytes
  have hr := B.returns
  have hts := atoms_spec (ws := wsX5_lift) B.pre
  have hown : s.vm.findClass RX5 = some m.cls := findClass_of_methodNamed B.named
  have hlocks := B.notSynchronized
  subst hsz
  have hD := hD0.self (sz := s.heap.size)
  generalize hAe : va_A [(h0, .inr (4, [.ref h0_held, .int t_size, .ref h0_roots, .ref h0_survey])), (h0_held, .inl (k_t_held, 24, .inr (.inr (.inr (.inr t_held))))), (h0_roots, .inr (1, [.ref h0_roots_least, .int t_roots_prime])), (h0_roots_least, .inl (k_t_roots_least, 10007, .inl t_roots_least)), (y0, .inr (0, [.int y0_p, .int y0_a, .int y0_b, .int y0_from, .int y0_kernelPoint, .int y0_kernelOrder, .int y0_points, .int y0_inner, .int y0_outer, .int y0_makersFound, .int y0_first, .int y0_second]))] s.heap.size = A at hD ⊢
  have hA0 : ∀ q : Nat, s.heap.size ≤ q → A q := fun q h => by rw [← hAe]; exact Or.inr h
  have hS : va_S A s.heap s.heap [] := va_S.rf
  have hP : va_P (dC, dI) vwCl [(h0, .inr (4, [.ref h0_held, .int t_size, .ref h0_roots, .ref h0_survey])), (h0_held, .inl (k_t_held, 24, .inr (.inr (.inr (.inr t_held))))), (h0_roots, .inr (1, [.ref h0_roots_least, .int t_roots_prime])), (h0_roots_least, .inl (k_t_roots_least, 10007, .inl t_roots_least)), (y0, .inr (0, [.int y0_p, .int y0_a, .int y0_b, .int y0_from, .int y0_kernelPoint, .int y0_kernelOrder, .int y0_points, .int y0_inner, .int y0_outer, .int y0_makersFound, .int y0_first, .int y0_second]))] s.heap := hP
  have hl := lv_entry ([.ref h0, .int a0, .int a1, .int a2]) (n := 6) (Nat.le_of_ble_eq_true rfl)
  rw [lg_entry_eq]
  generalize (lg_sl ([.ref h0, .int a0, .int a1, .int a2]) ++ List.replicate (6 - (lg_sl ([.ref h0, .int a0, .int a1, .int a2])).length) Slot.unset).toArray = ls at hl ⊢
  have hl : lv_has ls 6 [(0, .ref h0), (1, .int a0), (2, .int a1), (3, .int a2)] := hl
  dsimp only [mX5_lift_s] at h
  refine lv_aload_n hx hb dX5_lift_0 rfl (lv_at hl 0 rfl) ?_
  refine lv_iload_n hx hb dX5_lift_1 rfl (lv_at hl 1 rfl) ?_
  have hPc := hP.sub (ws' := [(h0, .inr (4, [.ref h0_held, .int t_size, .ref h0_roots, .ref h0_survey])), (h0_held, .inl (k_t_held, 24, .inr (.inr (.inr (.inr t_held)))))]) [0, 1] rfl
  have hKc := hK.sub (tys' := [(k_t_held, .object "PointRings$Curve")]) [0] rfl
  refine va_csq (W.runV (As := [.int a0]) (rest := []) ⟨hx, hb, hml, hown, hts⟩ (ctX5_at l N dC dI  h0 h0_held h0_roots h0_survey k_t_held t_size t_held a0 (some y0) hk0) (cwV 1 hts gX5_lift_X5_at rfl rfl rfl (by decide +kernel) ⟨Nat.le_of_ble_eq_true rfl, Nat.le_of_ble_eq_true rfl⟩) ⟨fun a U g mk q => by obtain ⟨q0, qP, qK, qN⟩ := q; exact ⟨q0, qP, va_K.moved (u := U) (U := U.calling g mk a) (Vm.Alike.refl U.vm) qK, nw_same (u := U) (U := U.calling g mk a) rfl qN⟩, va_recv hKc hPc (ci := 4) (q0 := 0) rfl rfl, fun U hU hW => ⟨rfl, by rw [hU]; exact hPc, va_K.moved hW.alike hKc, nw_warm hW hN⟩⟩ rfl rfl hl.1 rfl (lv_room (Nat.le_of_ble_eq_true rfl)) dX5_lift_2 ⟨Nat.le_of_ble_eq_true rfl, Nat.le_of_ble_eq_true rfl⟩) (fun q9 eq9 => ?_)
  subst q9
  refine lv_astore (lv' := [(4, .ref y0), (0, .ref h0), (1, .int a0), (2, .int a1), (3, .int a2)]) hx hb dX5_lift_5 hl (by decide) rfl (fun ls hl => ?_)
  refine lv_aload hx hb dX5_lift_7 (lv_at hl 0 rfl) ?_
  refine lv_ifnull hx hb dX5_lift_9 ?_
  refine lv_iload_n hx hb dX5_lift_12 rfl (lv_at hl 3 rfl) ?_
  refine lv_aload hx hb dX5_lift_13 (lv_at hl 0 rfl) ?_
  refine va_get (D := (dC, dI)) (ci := 0) (v := .int y0_p) (C := RX0) (T := TX0) (N := 12) hx hb hts (by decide +kernel) hown hK hP 4 rfl rfl 0 (by decide) (hts (.fieldLink RX5 60 "PointRings$Curve" "p" "I") (by decide +kernel)) (fun _ h9 => h9) rfl dX5_lift_15 ?_
  obtain ⟨r2, hr2, h⟩ := Option.bind_eq_some_iff.mp h
  refine vp_callSi (W.runS (As := [.int a1, .int y0_p]) (rest := []) ⟨hx, hb, hml, hown, hts⟩ (ctX4_isBelow l N  a1 y0_p r2 hr2) (va_cwS 2 hts gX5_lift_X4_isBelow rfl rfl rfl (by decide +kernel) ⟨Nat.le_of_ble_eq_true rfl, Nat.le_of_ble_eq_true rfl⟩) preEq rfl rfl hl.1 rfl (lv_room (Nat.le_of_ble_eq_true rfl)) dX5_lift_18 ⟨Nat.le_of_ble_eq_true rfl, Nat.le_of_ble_eq_true rfl⟩) (fun q9 eq9 => ?_)
  subst q9
  refine lv_if_ne (tgt := 27) hx hb dX5_lift_21 (by decide) (fun c3 => ?_) (fun c3 => ?_)
  · replace h := (if_neg c3).symm.trans h
    refine lv_aload_n hx hb dX5_lift_27 rfl (lv_at hl 1 rfl) ?_
    refine va_get (D := (dC, dI)) (ci := 4) (v := .ref h0_roots) (C := RX5) (T := TX5) (N := 4) hx hb hts (by decide +kernel) hown hK hP 0 rfl rfl 2 (by decide) (hts (.fieldLink RX5 22 "PointRings" "roots" "LPointRings$Roots;") (by decide +kernel)) (fun _ h9 => h9) rfl dX5_lift_28 ?_
    refine lv_aload hx hb dX5_lift_31 (lv_at hl 0 rfl) ?_
    refine lv_iload_n hx hb dX5_lift_33 rfl (lv_at hl 3 rfl) ?_
    obtain ⟨r4, hr4, h⟩ := Option.bind_eq_some_iff.mp h
    have hPc := hP.sub (ws' := [(y0, .inr (0, [.int y0_p, .int y0_a, .int y0_b, .int y0_from, .int y0_kernelPoint, .int y0_kernelOrder, .int y0_points, .int y0_inner, .int y0_outer, .int y0_makersFound, .int y0_first, .int y0_second]))]) [4] rfl
    have hKc := hK.sub (tys' := []) [] rfl
    refine vp_callSi (W.runV (As := [.int a1]) (rest := [.ref h0_roots]) ⟨hx, hb, hml, hown, hts⟩ (ctX0_cubic l N dC dI  y0 y0_p y0_a y0_b y0_from y0_kernelPoint y0_kernelOrder y0_points y0_inner y0_outer y0_makersFound y0_first y0_second a1 r4 hr4) (cwV 1 hts gX5_lift_X0_cubic rfl rfl rfl (by decide +kernel) ⟨Nat.le_of_ble_eq_true rfl, Nat.le_of_ble_eq_true rfl⟩) ⟨fun a U g mk q => by obtain ⟨q0, qP, qK, qN⟩ := q; exact ⟨q0, qP, va_K.moved (u := U) (U := U.calling g mk a) (Vm.Alike.refl U.vm) qK, nw_same (u := U) (U := U.calling g mk a) rfl qN⟩, va_recv hKc hPc (ci := 0) (q0 := 0) rfl rfl, fun U hU hW => ⟨rfl, by rw [hU]; exact hPc, va_K.moved hW.alike hKc, nw_warm hW hN⟩⟩ rfl rfl hl.1 rfl (lv_room (Nat.le_of_ble_eq_true rfl)) dX5_lift_34 ⟨Nat.le_of_ble_eq_true rfl, Nat.le_of_ble_eq_true rfl⟩) (fun q9 eq9 => ?_)
    subst q9
    refine lv_aload hx hb dX5_lift_37 (lv_at hl 0 rfl) ?_
    refine va_get (D := (dC, dI)) (ci := 0) (v := .int y0_p) (C := RX0) (T := TX0) (N := 12) hx hb hts (by decide +kernel) hown hK hP 4 rfl rfl 0 (by decide) (hts (.fieldLink RX5 60 "PointRings$Curve" "p" "I") (by decide +kernel)) (fun _ h9 => h9) rfl dX5_lift_39 ?_
    obtain ⟨r5, hr5, h⟩ := Option.bind_eq_some_iff.mp h
    have hPc := hP.sub (ws' := [(h0_roots, .inr (1, [.ref h0_roots_least, .int t_roots_prime])), (h0_roots_least, .inl (k_t_roots_least, 10007, .inl t_roots_least))]) [2, 3] rfl
    have hDc := hD.sub (ws' := [(h0_roots, .inr (1, [.ref h0_roots_least, .int t_roots_prime])), (h0_roots_least, .inl (k_t_roots_least, 10007, .inl t_roots_least))]) [2, 3] (by decide) rfl
    have hKc := hK.sub (tys' := [(k_t_roots_least, .int)]) [1] rfl
    have hFc := va_free (wc := [(h0_roots, .inr (1, [.ref h0_roots_least, .int t_roots_prime])), (h0_roots_least, .inl (k_t_roots_least, 10007, .inl t_roots_least))]) hD hS hA0 [2, 3] rfl
    refine va_calli (va_runV (As := [.int r4, .int y0_p]) (rest := []) ⟨hx, hb, hml, hown, hts⟩ (ctX1_leastRoot l N dC dI _ h0_roots h0_roots_least k_t_roots_least t_roots_prime t_roots_least r4 y0_p r5 hr5) (cwV 2 hts gX5_lift_X1_leastRoot rfl rfl rfl (by decide +kernel) ⟨Nat.le_of_ble_eq_true rfl, Nat.le_of_ble_eq_true rfl⟩) ⟨fun a U g mk q => by obtain ⟨q0, q1, qP, qK, qN, qD⟩ := q; exact ⟨q0, q1, qP, va_K.moved (u := U) (U := U.calling g mk a) (Vm.Alike.refl U.vm) qK, nw_same (u := U) (U := U.calling g mk a) rfl qN, qD⟩, va_recv hKc hPc (ci := 1) (q0 := 0) rfl rfl, fun U hU hW => ⟨rfl, by rw [hU], by rw [hU]; exact hPc, va_K.moved hW.alike hKc, nw_warm hW hN, hDc.weaken (fun _ _ _ _ => trivial)⟩⟩ rfl rfl hl.1 rfl (lv_room (Nat.le_of_ble_eq_true rfl)) dX5_lift_42 ⟨Nat.le_of_ble_eq_true rfl, Nat.le_of_ble_eq_true rfl⟩) hS (fun q _ h => hFc q h) hFc (fun rz u t H1 locs ht hvm hw hB1 hz1 hk1 hS => ?_)
    obtain ⟨u6, f7⟩ := u
    obtain ⟨hP1, hK1, hD1⟩ := hB1
    rw [ht] at hP1
    have hK1 := va_K.moved hvm.symm hK1
    obtain ⟨r8, rfl⟩ : ∃ z, z = rz := ⟨_, rfl⟩
    subst hw
    try dsimp only at h
    obtain ⟨hP, hD⟩ := va_join (wr := [(h0, .inr (4, [.ref h0_held, .int t_size, .ref h0_roots, .ref h0_survey])), (h0_held, .inl (k_t_held, 24, .inr (.inr (.inr (.inr t_held))))), (y0, .inr (0, [.int y0_p, .int y0_a, .int y0_b, .int y0_from, .int y0_kernelPoint, .int y0_kernelOrder, .int y0_points, .int y0_inner, .int y0_outer, .int y0_makersFound, .int y0_first, .int y0_second]))]) (w1 := [(h0_roots, .inr (1, [.ref h0_roots_least, .int u6])), (h0_roots_least, .inl (k_t_roots_least, 10007, .inl f7))]) hP hD [2, 3] [0, 1, 4] rfl rfl (by decide) (by decide) hk1 hFc hP1 hD1
    generalize H1 = H at hP hS ⊢
    have hP := hP.sub (ws' := [(h0, .inr (4, [.ref h0_held, .int t_size, .ref h0_roots, .ref h0_survey])), (h0_held, .inl (k_t_held, 24, .inr (.inr (.inr (.inr t_held))))), (h0_roots, .inr (1, [.ref h0_roots_least, .int u6])), (h0_roots_least, .inl (k_t_roots_least, 10007, .inl f7)), (y0, .inr (0, [.int y0_p, .int y0_a, .int y0_b, .int y0_from, .int y0_kernelPoint, .int y0_kernelOrder, .int y0_points, .int y0_inner, .int y0_outer, .int y0_makersFound, .int y0_first, .int y0_second]))]) [0, 1, 3, 4, 2] rfl
    have hD := hD.sub (ws' := [(h0, .inr (4, [.ref h0_held, .int t_size, .ref h0_roots, .ref h0_survey])), (h0_held, .inl (k_t_held, 24, .inr (.inr (.inr (.inr t_held))))), (h0_roots, .inr (1, [.ref h0_roots_least, .int u6])), (h0_roots_least, .inl (k_t_roots_least, 10007, .inl f7)), (y0, .inr (0, [.int y0_p, .int y0_a, .int y0_b, .int y0_from, .int y0_kernelPoint, .int y0_kernelOrder, .int y0_points, .int y0_inner, .int y0_outer, .int y0_makersFound, .int y0_first, .int y0_second]))]) [0, 1, 3, 4, 2] (by decide) rfl
    refine lv_istore (lv' := [(5, .int r8), (4, .ref y0), (0, .ref h0), (1, .int a0), (2, .int a1), (3, .int a2)]) hx hb dX5_lift_45 hl (by decide) rfl (fun ls hl => ?_)
    refine lv_iload hx hb dX5_lift_47 (lv_at hl 0 rfl) ?_
    refine lv_if_lt (tgt := 61) hx hb dX5_lift_49 (by decide) (fun c9 => ?_) (fun c9 => ?_)
    · replace h := (if_pos c9).symm.trans h
      refine lv_iconst (v := (-1)) hx hb dX5_lift_61 (by decide) ?_
      have hv : ((-1), u6, f7) = rr := Option.some.inj h
      have hP9 := hP.sub (ws' := [(h0, .inr (4, [.ref h0_held, .int t_size, .ref h0_roots, .ref h0_survey])), (h0_held, .inl (k_t_held, 24, .inr (.inr (.inr (.inr t_held))))), (h0_roots, .inr (1, [.ref h0_roots_least, .int u6])), (h0_roots_least, .inl (k_t_roots_least, 10007, .inl f7)), (y0, .inr (0, [.int y0_p, .int y0_a, .int y0_b, .int y0_from, .int y0_kernelPoint, .int y0_kernelOrder, .int y0_points, .int y0_inner, .int y0_outer, .int y0_makersFound, .int y0_first, .int y0_second]))]) [0, 1, 2, 3, 4] rfl
      have hD9 := hD.sub (ws' := [(h0, .inr (4, [.ref h0_held, .int t_size, .ref h0_roots, .ref h0_survey])), (h0_held, .inl (k_t_held, 24, .inr (.inr (.inr (.inr t_held))))), (h0_roots, .inr (1, [.ref h0_roots_least, .int u6])), (h0_roots_least, .inl (k_t_roots_least, 10007, .inl f7)), (y0, .inr (0, [.int y0_p, .int y0_a, .int y0_b, .int y0_from, .int y0_kernelPoint, .int y0_kernelOrder, .int y0_points, .int y0_inner, .int y0_outer, .int y0_makersFound, .int y0_first, .int y0_second]))]) [0, 1, 2, 3, 4] (by decide) rfl
      have hK9 := hK.sub (tys' := [(k_t_held, .object "PointRings$Curve"), (k_t_roots_least, .int)]) [0, 1] rfl
      exact W.iret (v := (-1)) hx hb hr (fun t ht hW => ⟨⟨(-1), (u6, f7), rfl, hv, by rw [ht]; exact hP9, va_K.moved hW.alike hK9, hD9⟩, hS.F ht⟩) hS.2.2 dX5_lift_62
    · replace h := (if_neg c9).symm.trans h
      refine lv_iload hx hb dX5_lift_52 (lv_at hl 0 rfl) ?_
      refine lv_if_ne (tgt := 63) hx hb dX5_lift_54 (by decide) (fun c10 => ?_) (fun c10 => ?_)
      · replace h := (if_neg c10).symm.trans h
        refine lv_iload_n hx hb dX5_lift_63 rfl (lv_at hl 4 rfl) ?_
        refine lv_iload hx hb dX5_lift_64 (lv_at hl 0 rfl) ?_
        refine lv_iconst (v := 2) hx hb dX5_lift_66 (by decide) ?_
        refine lv_irem hx hb dX5_lift_67 (by decide) ?_
        refine lv_topi (fun v11 ev11 => ?_)
        replace h := mi_use ev11 h
        refine lv_iconst (v := 1) hx hb dX5_lift_68 (by decide) ?_
        refine lv_icmp_ne (tgt := 76) hx hb dX5_lift_69 (by decide) (fun c12 => ?_) (fun c12 => ?_)
        · replace h := (if_neg c12).symm.trans h
          refine lv_iconst (v := 0) hx hb dX5_lift_76 (by decide) ?_
          refine lv_iload_n hx hb dX5_lift_77 rfl (lv_at hl 5 rfl) ?_
          refine lv_icmp_ne (tgt := 86) hx hb dX5_lift_78 (by decide) (fun c13 => ?_) (fun c13 => ?_)
          · replace h := (if_neg c13).symm.trans h
            refine lv_aload hx hb dX5_lift_86 (lv_at hl 1 rfl) ?_
            refine va_get (D := (dC, dI)) (ci := 0) (v := .int y0_p) (C := RX0) (T := TX0) (N := 12) hx hb hts (by decide +kernel) hown hK hP 4 rfl rfl 0 (by decide) (hts (.fieldLink RX5 60 "PointRings$Curve" "p" "I") (by decide +kernel)) (fun _ h9 => h9) rfl dX5_lift_88 ?_
            refine lv_iload hx hb dX5_lift_91 (lv_at hl 0 rfl) ?_
            refine lv_isub hx hb dX5_lift_93 ?_
            obtain ⟨r14, hr14, h⟩ := Option.bind_eq_some_iff.mp h
            refine vp_callSi (W.runS (As := [.int a1, .int (y0_p - r8)]) (rest := []) ⟨hx, hb, hml, hown, hts⟩ (ctX5_pair l N  a1 (y0_p - r8) r14 hr14) (va_cwS 2 hts gX5_lift_X5_pair rfl rfl rfl (by decide +kernel) ⟨Nat.le_of_ble_eq_true rfl, Nat.le_of_ble_eq_true rfl⟩) preEq rfl rfl hl.1 rfl (lv_room (Nat.le_of_ble_eq_true rfl)) dX5_lift_94 ⟨Nat.le_of_ble_eq_true rfl, Nat.le_of_ble_eq_true rfl⟩) (fun q9 eq9 => ?_)
            subst q9
            have hv : (r14, u6, f7) = rr := Option.some.inj h
            have hP9 := hP.sub (ws' := [(h0, .inr (4, [.ref h0_held, .int t_size, .ref h0_roots, .ref h0_survey])), (h0_held, .inl (k_t_held, 24, .inr (.inr (.inr (.inr t_held))))), (h0_roots, .inr (1, [.ref h0_roots_least, .int u6])), (h0_roots_least, .inl (k_t_roots_least, 10007, .inl f7)), (y0, .inr (0, [.int y0_p, .int y0_a, .int y0_b, .int y0_from, .int y0_kernelPoint, .int y0_kernelOrder, .int y0_points, .int y0_inner, .int y0_outer, .int y0_makersFound, .int y0_first, .int y0_second]))]) [0, 1, 2, 3, 4] rfl
            have hD9 := hD.sub (ws' := [(h0, .inr (4, [.ref h0_held, .int t_size, .ref h0_roots, .ref h0_survey])), (h0_held, .inl (k_t_held, 24, .inr (.inr (.inr (.inr t_held))))), (h0_roots, .inr (1, [.ref h0_roots_least, .int u6])), (h0_roots_least, .inl (k_t_roots_least, 10007, .inl f7)), (y0, .inr (0, [.int y0_p, .int y0_a, .int y0_b, .int y0_from, .int y0_kernelPoint, .int y0_kernelOrder, .int y0_points, .int y0_inner, .int y0_outer, .int y0_makersFound, .int y0_first, .int y0_second]))]) [0, 1, 2, 3, 4] (by decide) rfl
            have hK9 := hK.sub (tys' := [(k_t_held, .object "PointRings$Curve"), (k_t_roots_least, .int)]) [0, 1] rfl
            exact W.iret (v := r14) hx hb hr (fun t ht hW => ⟨⟨r14, (u6, f7), rfl, hv, by rw [ht]; exact hP9, va_K.moved hW.alike hK9, hD9⟩, hS.F ht⟩) hS.2.2 dX5_lift_97
          · replace h := (if_pos c13).symm.trans h
            refine lv_iload hx hb dX5_lift_81 (lv_at hl 0 rfl) ?_
            refine lv_goto (tgt := 94) hx hb dX5_lift_83 (by decide) ?_
            obtain ⟨r15, hr15, h⟩ := Option.bind_eq_some_iff.mp h
            refine vp_callSi (W.runS (As := [.int a1, .int r8]) (rest := []) ⟨hx, hb, hml, hown, hts⟩ (ctX5_pair l N  a1 r8 r15 hr15) (va_cwS 2 hts gX5_lift_X5_pair rfl rfl rfl (by decide +kernel) ⟨Nat.le_of_ble_eq_true rfl, Nat.le_of_ble_eq_true rfl⟩) preEq rfl rfl hl.1 rfl (lv_room (Nat.le_of_ble_eq_true rfl)) dX5_lift_94 ⟨Nat.le_of_ble_eq_true rfl, Nat.le_of_ble_eq_true rfl⟩) (fun q9 eq9 => ?_)
            subst q9
            have hv : (r15, u6, f7) = rr := Option.some.inj h
            have hP9 := hP.sub (ws' := [(h0, .inr (4, [.ref h0_held, .int t_size, .ref h0_roots, .ref h0_survey])), (h0_held, .inl (k_t_held, 24, .inr (.inr (.inr (.inr t_held))))), (h0_roots, .inr (1, [.ref h0_roots_least, .int u6])), (h0_roots_least, .inl (k_t_roots_least, 10007, .inl f7)), (y0, .inr (0, [.int y0_p, .int y0_a, .int y0_b, .int y0_from, .int y0_kernelPoint, .int y0_kernelOrder, .int y0_points, .int y0_inner, .int y0_outer, .int y0_makersFound, .int y0_first, .int y0_second]))]) [0, 1, 2, 3, 4] rfl
            have hD9 := hD.sub (ws' := [(h0, .inr (4, [.ref h0_held, .int t_size, .ref h0_roots, .ref h0_survey])), (h0_held, .inl (k_t_held, 24, .inr (.inr (.inr (.inr t_held))))), (h0_roots, .inr (1, [.ref h0_roots_least, .int u6])), (h0_roots_least, .inl (k_t_roots_least, 10007, .inl f7)), (y0, .inr (0, [.int y0_p, .int y0_a, .int y0_b, .int y0_from, .int y0_kernelPoint, .int y0_kernelOrder, .int y0_points, .int y0_inner, .int y0_outer, .int y0_makersFound, .int y0_first, .int y0_second]))]) [0, 1, 2, 3, 4] (by decide) rfl
            have hK9 := hK.sub (tys' := [(k_t_held, .object "PointRings$Curve"), (k_t_roots_least, .int)]) [0, 1] rfl
            exact W.iret (v := r15) hx hb hr (fun t ht hW => ⟨⟨r15, (u6, f7), rfl, hv, by rw [ht]; exact hP9, va_K.moved hW.alike hK9, hD9⟩, hS.F ht⟩) hS.2.2 dX5_lift_97
        · replace h := (if_pos c12).symm.trans h
          refine lv_iconst (v := 1) hx hb dX5_lift_72 (by decide) ?_
          refine lv_goto (tgt := 77) hx hb dX5_lift_73 (by decide) ?_
          refine lv_iload_n hx hb dX5_lift_77 rfl (lv_at hl 5 rfl) ?_
          refine lv_icmp_ne (tgt := 86) hx hb dX5_lift_78 (by decide) (fun c16 => ?_) (fun c16 => ?_)
          · replace h := (if_neg c16).symm.trans h
            refine lv_aload hx hb dX5_lift_86 (lv_at hl 1 rfl) ?_
            refine va_get (D := (dC, dI)) (ci := 0) (v := .int y0_p) (C := RX0) (T := TX0) (N := 12) hx hb hts (by decide +kernel) hown hK hP 4 rfl rfl 0 (by decide) (hts (.fieldLink RX5 60 "PointRings$Curve" "p" "I") (by decide +kernel)) (fun _ h9 => h9) rfl dX5_lift_88 ?_
            refine lv_iload hx hb dX5_lift_91 (lv_at hl 0 rfl) ?_
            refine lv_isub hx hb dX5_lift_93 ?_
            obtain ⟨r17, hr17, h⟩ := Option.bind_eq_some_iff.mp h
            refine vp_callSi (W.runS (As := [.int a1, .int (y0_p - r8)]) (rest := []) ⟨hx, hb, hml, hown, hts⟩ (ctX5_pair l N  a1 (y0_p - r8) r17 hr17) (va_cwS 2 hts gX5_lift_X5_pair rfl rfl rfl (by decide +kernel) ⟨Nat.le_of_ble_eq_true rfl, Nat.le_of_ble_eq_true rfl⟩) preEq rfl rfl hl.1 rfl (lv_room (Nat.le_of_ble_eq_true rfl)) dX5_lift_94 ⟨Nat.le_of_ble_eq_true rfl, Nat.le_of_ble_eq_true rfl⟩) (fun q9 eq9 => ?_)
            subst q9
            have hv : (r17, u6, f7) = rr := Option.some.inj h
            have hP9 := hP.sub (ws' := [(h0, .inr (4, [.ref h0_held, .int t_size, .ref h0_roots, .ref h0_survey])), (h0_held, .inl (k_t_held, 24, .inr (.inr (.inr (.inr t_held))))), (h0_roots, .inr (1, [.ref h0_roots_least, .int u6])), (h0_roots_least, .inl (k_t_roots_least, 10007, .inl f7)), (y0, .inr (0, [.int y0_p, .int y0_a, .int y0_b, .int y0_from, .int y0_kernelPoint, .int y0_kernelOrder, .int y0_points, .int y0_inner, .int y0_outer, .int y0_makersFound, .int y0_first, .int y0_second]))]) [0, 1, 2, 3, 4] rfl
            have hD9 := hD.sub (ws' := [(h0, .inr (4, [.ref h0_held, .int t_size, .ref h0_roots, .ref h0_survey])), (h0_held, .inl (k_t_held, 24, .inr (.inr (.inr (.inr t_held))))), (h0_roots, .inr (1, [.ref h0_roots_least, .int u6])), (h0_roots_least, .inl (k_t_roots_least, 10007, .inl f7)), (y0, .inr (0, [.int y0_p, .int y0_a, .int y0_b, .int y0_from, .int y0_kernelPoint, .int y0_kernelOrder, .int y0_points, .int y0_inner, .int y0_outer, .int y0_makersFound, .int y0_first, .int y0_second]))]) [0, 1, 2, 3, 4] (by decide) rfl
            have hK9 := hK.sub (tys' := [(k_t_held, .object "PointRings$Curve"), (k_t_roots_least, .int)]) [0, 1] rfl
            exact W.iret (v := r17) hx hb hr (fun t ht hW => ⟨⟨r17, (u6, f7), rfl, hv, by rw [ht]; exact hP9, va_K.moved hW.alike hK9, hD9⟩, hS.F ht⟩) hS.2.2 dX5_lift_97
          · replace h := (if_pos c16).symm.trans h
            refine lv_iload hx hb dX5_lift_81 (lv_at hl 0 rfl) ?_
            refine lv_goto (tgt := 94) hx hb dX5_lift_83 (by decide) ?_
            obtain ⟨r18, hr18, h⟩ := Option.bind_eq_some_iff.mp h
            refine vp_callSi (W.runS (As := [.int a1, .int r8]) (rest := []) ⟨hx, hb, hml, hown, hts⟩ (ctX5_pair l N  a1 r8 r18 hr18) (va_cwS 2 hts gX5_lift_X5_pair rfl rfl rfl (by decide +kernel) ⟨Nat.le_of_ble_eq_true rfl, Nat.le_of_ble_eq_true rfl⟩) preEq rfl rfl hl.1 rfl (lv_room (Nat.le_of_ble_eq_true rfl)) dX5_lift_94 ⟨Nat.le_of_ble_eq_true rfl, Nat.le_of_ble_eq_true rfl⟩) (fun q9 eq9 => ?_)
            subst q9
            have hv : (r18, u6, f7) = rr := Option.some.inj h
            have hP9 := hP.sub (ws' := [(h0, .inr (4, [.ref h0_held, .int t_size, .ref h0_roots, .ref h0_survey])), (h0_held, .inl (k_t_held, 24, .inr (.inr (.inr (.inr t_held))))), (h0_roots, .inr (1, [.ref h0_roots_least, .int u6])), (h0_roots_least, .inl (k_t_roots_least, 10007, .inl f7)), (y0, .inr (0, [.int y0_p, .int y0_a, .int y0_b, .int y0_from, .int y0_kernelPoint, .int y0_kernelOrder, .int y0_points, .int y0_inner, .int y0_outer, .int y0_makersFound, .int y0_first, .int y0_second]))]) [0, 1, 2, 3, 4] rfl
            have hD9 := hD.sub (ws' := [(h0, .inr (4, [.ref h0_held, .int t_size, .ref h0_roots, .ref h0_survey])), (h0_held, .inl (k_t_held, 24, .inr (.inr (.inr (.inr t_held))))), (h0_roots, .inr (1, [.ref h0_roots_least, .int u6])), (h0_roots_least, .inl (k_t_roots_least, 10007, .inl f7)), (y0, .inr (0, [.int y0_p, .int y0_a, .int y0_b, .int y0_from, .int y0_kernelPoint, .int y0_kernelOrder, .int y0_points, .int y0_inner, .int y0_outer, .int y0_makersFound, .int y0_first, .int y0_second]))]) [0, 1, 2, 3, 4] (by decide) rfl
            have hK9 := hK.sub (tys' := [(k_t_held, .object "PointRings$Curve"), (k_t_roots_least, .int)]) [0, 1] rfl
            exact W.iret (v := r18) hx hb hr (fun t ht hW => ⟨⟨r18, (u6, f7), rfl, hv, by rw [ht]; exact hP9, va_K.moved hW.alike hK9, hD9⟩, hS.F ht⟩) hS.2.2 dX5_lift_97
      · replace h := (if_pos c10).symm.trans h
        refine lv_iload_n hx hb dX5_lift_57 rfl (lv_at hl 5 rfl) ?_
        refine lv_if_eq (tgt := 63) hx hb dX5_lift_58 (by decide) (fun c19 => ?_) (fun c19 => ?_)
        · replace h := (if_pos c19).symm.trans h
          refine lv_iload_n hx hb dX5_lift_63 rfl (lv_at hl 4 rfl) ?_
          refine lv_iload hx hb dX5_lift_64 (lv_at hl 0 rfl) ?_
          refine lv_iconst (v := 2) hx hb dX5_lift_66 (by decide) ?_
          refine lv_irem hx hb dX5_lift_67 (by decide) ?_
          refine lv_topi (fun v20 ev20 => ?_)
          replace h := mi_use ev20 h
          refine lv_iconst (v := 1) hx hb dX5_lift_68 (by decide) ?_
          refine lv_icmp_ne (tgt := 76) hx hb dX5_lift_69 (by decide) (fun c21 => ?_) (fun c21 => ?_)
          · replace h := (if_neg c21).symm.trans h
            refine lv_iconst (v := 0) hx hb dX5_lift_76 (by decide) ?_
            refine lv_iload_n hx hb dX5_lift_77 rfl (lv_at hl 5 rfl) ?_
            refine lv_icmp_ne (tgt := 86) hx hb dX5_lift_78 (by decide) (fun c22 => ?_) (fun c22 => ?_)
            · replace h := (if_neg c22).symm.trans h
              refine lv_aload hx hb dX5_lift_86 (lv_at hl 1 rfl) ?_
              refine va_get (D := (dC, dI)) (ci := 0) (v := .int y0_p) (C := RX0) (T := TX0) (N := 12) hx hb hts (by decide +kernel) hown hK hP 4 rfl rfl 0 (by decide) (hts (.fieldLink RX5 60 "PointRings$Curve" "p" "I") (by decide +kernel)) (fun _ h9 => h9) rfl dX5_lift_88 ?_
              refine lv_iload hx hb dX5_lift_91 (lv_at hl 0 rfl) ?_
              refine lv_isub hx hb dX5_lift_93 ?_
              obtain ⟨r23, hr23, h⟩ := Option.bind_eq_some_iff.mp h
              refine vp_callSi (W.runS (As := [.int a1, .int (y0_p - r8)]) (rest := []) ⟨hx, hb, hml, hown, hts⟩ (ctX5_pair l N  a1 (y0_p - r8) r23 hr23) (va_cwS 2 hts gX5_lift_X5_pair rfl rfl rfl (by decide +kernel) ⟨Nat.le_of_ble_eq_true rfl, Nat.le_of_ble_eq_true rfl⟩) preEq rfl rfl hl.1 rfl (lv_room (Nat.le_of_ble_eq_true rfl)) dX5_lift_94 ⟨Nat.le_of_ble_eq_true rfl, Nat.le_of_ble_eq_true rfl⟩) (fun q9 eq9 => ?_)
              subst q9
              have hv : (r23, u6, f7) = rr := Option.some.inj h
              have hP9 := hP.sub (ws' := [(h0, .inr (4, [.ref h0_held, .int t_size, .ref h0_roots, .ref h0_survey])), (h0_held, .inl (k_t_held, 24, .inr (.inr (.inr (.inr t_held))))), (h0_roots, .inr (1, [.ref h0_roots_least, .int u6])), (h0_roots_least, .inl (k_t_roots_least, 10007, .inl f7)), (y0, .inr (0, [.int y0_p, .int y0_a, .int y0_b, .int y0_from, .int y0_kernelPoint, .int y0_kernelOrder, .int y0_points, .int y0_inner, .int y0_outer, .int y0_makersFound, .int y0_first, .int y0_second]))]) [0, 1, 2, 3, 4] rfl
              have hD9 := hD.sub (ws' := [(h0, .inr (4, [.ref h0_held, .int t_size, .ref h0_roots, .ref h0_survey])), (h0_held, .inl (k_t_held, 24, .inr (.inr (.inr (.inr t_held))))), (h0_roots, .inr (1, [.ref h0_roots_least, .int u6])), (h0_roots_least, .inl (k_t_roots_least, 10007, .inl f7)), (y0, .inr (0, [.int y0_p, .int y0_a, .int y0_b, .int y0_from, .int y0_kernelPoint, .int y0_kernelOrder, .int y0_points, .int y0_inner, .int y0_outer, .int y0_makersFound, .int y0_first, .int y0_second]))]) [0, 1, 2, 3, 4] (by decide) rfl
              have hK9 := hK.sub (tys' := [(k_t_held, .object "PointRings$Curve"), (k_t_roots_least, .int)]) [0, 1] rfl
              exact W.iret (v := r23) hx hb hr (fun t ht hW => ⟨⟨r23, (u6, f7), rfl, hv, by rw [ht]; exact hP9, va_K.moved hW.alike hK9, hD9⟩, hS.F ht⟩) hS.2.2 dX5_lift_97
            · replace h := (if_pos c22).symm.trans h
              refine lv_iload hx hb dX5_lift_81 (lv_at hl 0 rfl) ?_
              refine lv_goto (tgt := 94) hx hb dX5_lift_83 (by decide) ?_
              obtain ⟨r24, hr24, h⟩ := Option.bind_eq_some_iff.mp h
              refine vp_callSi (W.runS (As := [.int a1, .int r8]) (rest := []) ⟨hx, hb, hml, hown, hts⟩ (ctX5_pair l N  a1 r8 r24 hr24) (va_cwS 2 hts gX5_lift_X5_pair rfl rfl rfl (by decide +kernel) ⟨Nat.le_of_ble_eq_true rfl, Nat.le_of_ble_eq_true rfl⟩) preEq rfl rfl hl.1 rfl (lv_room (Nat.le_of_ble_eq_true rfl)) dX5_lift_94 ⟨Nat.le_of_ble_eq_true rfl, Nat.le_of_ble_eq_true rfl⟩) (fun q9 eq9 => ?_)
              subst q9
              have hv : (r24, u6, f7) = rr := Option.some.inj h
              have hP9 := hP.sub (ws' := [(h0, .inr (4, [.ref h0_held, .int t_size, .ref h0_roots, .ref h0_survey])), (h0_held, .inl (k_t_held, 24, .inr (.inr (.inr (.inr t_held))))), (h0_roots, .inr (1, [.ref h0_roots_least, .int u6])), (h0_roots_least, .inl (k_t_roots_least, 10007, .inl f7)), (y0, .inr (0, [.int y0_p, .int y0_a, .int y0_b, .int y0_from, .int y0_kernelPoint, .int y0_kernelOrder, .int y0_points, .int y0_inner, .int y0_outer, .int y0_makersFound, .int y0_first, .int y0_second]))]) [0, 1, 2, 3, 4] rfl
              have hD9 := hD.sub (ws' := [(h0, .inr (4, [.ref h0_held, .int t_size, .ref h0_roots, .ref h0_survey])), (h0_held, .inl (k_t_held, 24, .inr (.inr (.inr (.inr t_held))))), (h0_roots, .inr (1, [.ref h0_roots_least, .int u6])), (h0_roots_least, .inl (k_t_roots_least, 10007, .inl f7)), (y0, .inr (0, [.int y0_p, .int y0_a, .int y0_b, .int y0_from, .int y0_kernelPoint, .int y0_kernelOrder, .int y0_points, .int y0_inner, .int y0_outer, .int y0_makersFound, .int y0_first, .int y0_second]))]) [0, 1, 2, 3, 4] (by decide) rfl
              have hK9 := hK.sub (tys' := [(k_t_held, .object "PointRings$Curve"), (k_t_roots_least, .int)]) [0, 1] rfl
              exact W.iret (v := r24) hx hb hr (fun t ht hW => ⟨⟨r24, (u6, f7), rfl, hv, by rw [ht]; exact hP9, va_K.moved hW.alike hK9, hD9⟩, hS.F ht⟩) hS.2.2 dX5_lift_97
          · replace h := (if_pos c21).symm.trans h
            refine lv_iconst (v := 1) hx hb dX5_lift_72 (by decide) ?_
            refine lv_goto (tgt := 77) hx hb dX5_lift_73 (by decide) ?_
            refine lv_iload_n hx hb dX5_lift_77 rfl (lv_at hl 5 rfl) ?_
            refine lv_icmp_ne (tgt := 86) hx hb dX5_lift_78 (by decide) (fun c25 => ?_) (fun c25 => ?_)
            · replace h := (if_neg c25).symm.trans h
              refine lv_aload hx hb dX5_lift_86 (lv_at hl 1 rfl) ?_
              refine va_get (D := (dC, dI)) (ci := 0) (v := .int y0_p) (C := RX0) (T := TX0) (N := 12) hx hb hts (by decide +kernel) hown hK hP 4 rfl rfl 0 (by decide) (hts (.fieldLink RX5 60 "PointRings$Curve" "p" "I") (by decide +kernel)) (fun _ h9 => h9) rfl dX5_lift_88 ?_
              refine lv_iload hx hb dX5_lift_91 (lv_at hl 0 rfl) ?_
              refine lv_isub hx hb dX5_lift_93 ?_
              obtain ⟨r26, hr26, h⟩ := Option.bind_eq_some_iff.mp h
              refine vp_callSi (W.runS (As := [.int a1, .int (y0_p - r8)]) (rest := []) ⟨hx, hb, hml, hown, hts⟩ (ctX5_pair l N  a1 (y0_p - r8) r26 hr26) (va_cwS 2 hts gX5_lift_X5_pair rfl rfl rfl (by decide +kernel) ⟨Nat.le_of_ble_eq_true rfl, Nat.le_of_ble_eq_true rfl⟩) preEq rfl rfl hl.1 rfl (lv_room (Nat.le_of_ble_eq_true rfl)) dX5_lift_94 ⟨Nat.le_of_ble_eq_true rfl, Nat.le_of_ble_eq_true rfl⟩) (fun q9 eq9 => ?_)
              subst q9
              have hv : (r26, u6, f7) = rr := Option.some.inj h
              have hP9 := hP.sub (ws' := [(h0, .inr (4, [.ref h0_held, .int t_size, .ref h0_roots, .ref h0_survey])), (h0_held, .inl (k_t_held, 24, .inr (.inr (.inr (.inr t_held))))), (h0_roots, .inr (1, [.ref h0_roots_least, .int u6])), (h0_roots_least, .inl (k_t_roots_least, 10007, .inl f7)), (y0, .inr (0, [.int y0_p, .int y0_a, .int y0_b, .int y0_from, .int y0_kernelPoint, .int y0_kernelOrder, .int y0_points, .int y0_inner, .int y0_outer, .int y0_makersFound, .int y0_first, .int y0_second]))]) [0, 1, 2, 3, 4] rfl
              have hD9 := hD.sub (ws' := [(h0, .inr (4, [.ref h0_held, .int t_size, .ref h0_roots, .ref h0_survey])), (h0_held, .inl (k_t_held, 24, .inr (.inr (.inr (.inr t_held))))), (h0_roots, .inr (1, [.ref h0_roots_least, .int u6])), (h0_roots_least, .inl (k_t_roots_least, 10007, .inl f7)), (y0, .inr (0, [.int y0_p, .int y0_a, .int y0_b, .int y0_from, .int y0_kernelPoint, .int y0_kernelOrder, .int y0_points, .int y0_inner, .int y0_outer, .int y0_makersFound, .int y0_first, .int y0_second]))]) [0, 1, 2, 3, 4] (by decide) rfl
              have hK9 := hK.sub (tys' := [(k_t_held, .object "PointRings$Curve"), (k_t_roots_least, .int)]) [0, 1] rfl
              exact W.iret (v := r26) hx hb hr (fun t ht hW => ⟨⟨r26, (u6, f7), rfl, hv, by rw [ht]; exact hP9, va_K.moved hW.alike hK9, hD9⟩, hS.F ht⟩) hS.2.2 dX5_lift_97
            · replace h := (if_pos c25).symm.trans h
              refine lv_iload hx hb dX5_lift_81 (lv_at hl 0 rfl) ?_
              refine lv_goto (tgt := 94) hx hb dX5_lift_83 (by decide) ?_
              obtain ⟨r27, hr27, h⟩ := Option.bind_eq_some_iff.mp h
              refine vp_callSi (W.runS (As := [.int a1, .int r8]) (rest := []) ⟨hx, hb, hml, hown, hts⟩ (ctX5_pair l N  a1 r8 r27 hr27) (va_cwS 2 hts gX5_lift_X5_pair rfl rfl rfl (by decide +kernel) ⟨Nat.le_of_ble_eq_true rfl, Nat.le_of_ble_eq_true rfl⟩) preEq rfl rfl hl.1 rfl (lv_room (Nat.le_of_ble_eq_true rfl)) dX5_lift_94 ⟨Nat.le_of_ble_eq_true rfl, Nat.le_of_ble_eq_true rfl⟩) (fun q9 eq9 => ?_)
              subst q9
              have hv : (r27, u6, f7) = rr := Option.some.inj h
              have hP9 := hP.sub (ws' := [(h0, .inr (4, [.ref h0_held, .int t_size, .ref h0_roots, .ref h0_survey])), (h0_held, .inl (k_t_held, 24, .inr (.inr (.inr (.inr t_held))))), (h0_roots, .inr (1, [.ref h0_roots_least, .int u6])), (h0_roots_least, .inl (k_t_roots_least, 10007, .inl f7)), (y0, .inr (0, [.int y0_p, .int y0_a, .int y0_b, .int y0_from, .int y0_kernelPoint, .int y0_kernelOrder, .int y0_points, .int y0_inner, .int y0_outer, .int y0_makersFound, .int y0_first, .int y0_second]))]) [0, 1, 2, 3, 4] rfl
              have hD9 := hD.sub (ws' := [(h0, .inr (4, [.ref h0_held, .int t_size, .ref h0_roots, .ref h0_survey])), (h0_held, .inl (k_t_held, 24, .inr (.inr (.inr (.inr t_held))))), (h0_roots, .inr (1, [.ref h0_roots_least, .int u6])), (h0_roots_least, .inl (k_t_roots_least, 10007, .inl f7)), (y0, .inr (0, [.int y0_p, .int y0_a, .int y0_b, .int y0_from, .int y0_kernelPoint, .int y0_kernelOrder, .int y0_points, .int y0_inner, .int y0_outer, .int y0_makersFound, .int y0_first, .int y0_second]))]) [0, 1, 2, 3, 4] (by decide) rfl
              have hK9 := hK.sub (tys' := [(k_t_held, .object "PointRings$Curve"), (k_t_roots_least, .int)]) [0, 1] rfl
              exact W.iret (v := r27) hx hb hr (fun t ht hW => ⟨⟨r27, (u6, f7), rfl, hv, by rw [ht]; exact hP9, va_K.moved hW.alike hK9, hD9⟩, hS.F ht⟩) hS.2.2 dX5_lift_97
        · replace h := (if_neg c19).symm.trans h
          refine lv_iconst (v := (-1)) hx hb dX5_lift_61 (by decide) ?_
          have hv : ((-1), u6, f7) = rr := Option.some.inj h
          have hP9 := hP.sub (ws' := [(h0, .inr (4, [.ref h0_held, .int t_size, .ref h0_roots, .ref h0_survey])), (h0_held, .inl (k_t_held, 24, .inr (.inr (.inr (.inr t_held))))), (h0_roots, .inr (1, [.ref h0_roots_least, .int u6])), (h0_roots_least, .inl (k_t_roots_least, 10007, .inl f7)), (y0, .inr (0, [.int y0_p, .int y0_a, .int y0_b, .int y0_from, .int y0_kernelPoint, .int y0_kernelOrder, .int y0_points, .int y0_inner, .int y0_outer, .int y0_makersFound, .int y0_first, .int y0_second]))]) [0, 1, 2, 3, 4] rfl
          have hD9 := hD.sub (ws' := [(h0, .inr (4, [.ref h0_held, .int t_size, .ref h0_roots, .ref h0_survey])), (h0_held, .inl (k_t_held, 24, .inr (.inr (.inr (.inr t_held))))), (h0_roots, .inr (1, [.ref h0_roots_least, .int u6])), (h0_roots_least, .inl (k_t_roots_least, 10007, .inl f7)), (y0, .inr (0, [.int y0_p, .int y0_a, .int y0_b, .int y0_from, .int y0_kernelPoint, .int y0_kernelOrder, .int y0_points, .int y0_inner, .int y0_outer, .int y0_makersFound, .int y0_first, .int y0_second]))]) [0, 1, 2, 3, 4] (by decide) rfl
          have hK9 := hK.sub (tys' := [(k_t_held, .object "PointRings$Curve"), (k_t_roots_least, .int)]) [0, 1] rfl
          exact W.iret (v := (-1)) hx hb hr (fun t ht hW => ⟨⟨(-1), (u6, f7), rfl, hv, by rw [ht]; exact hP9, va_K.moved hW.alike hK9, hD9⟩, hS.F ht⟩) hS.2.2 dX5_lift_62
  · replace h := (if_pos c3).symm.trans h
    refine lv_bipush (v := (-2)) hx hb dX5_lift_24 (by decide) ?_
    have hv : ((-2), t_roots_prime, t_roots_least) = rr := Option.some.inj h
    have hP9 := hP.sub (ws' := [(h0, .inr (4, [.ref h0_held, .int t_size, .ref h0_roots, .ref h0_survey])), (h0_held, .inl (k_t_held, 24, .inr (.inr (.inr (.inr t_held))))), (h0_roots, .inr (1, [.ref h0_roots_least, .int t_roots_prime])), (h0_roots_least, .inl (k_t_roots_least, 10007, .inl t_roots_least)), (y0, .inr (0, [.int y0_p, .int y0_a, .int y0_b, .int y0_from, .int y0_kernelPoint, .int y0_kernelOrder, .int y0_points, .int y0_inner, .int y0_outer, .int y0_makersFound, .int y0_first, .int y0_second]))]) [0, 1, 2, 3, 4] rfl
    have hD9 := hD.sub (ws' := [(h0, .inr (4, [.ref h0_held, .int t_size, .ref h0_roots, .ref h0_survey])), (h0_held, .inl (k_t_held, 24, .inr (.inr (.inr (.inr t_held))))), (h0_roots, .inr (1, [.ref h0_roots_least, .int t_roots_prime])), (h0_roots_least, .inl (k_t_roots_least, 10007, .inl t_roots_least)), (y0, .inr (0, [.int y0_p, .int y0_a, .int y0_b, .int y0_from, .int y0_kernelPoint, .int y0_kernelOrder, .int y0_points, .int y0_inner, .int y0_outer, .int y0_makersFound, .int y0_first, .int y0_second]))]) [0, 1, 2, 3, 4] (by decide) rfl
    have hK9 := hK.sub (tys' := [(k_t_held, .object "PointRings$Curve"), (k_t_roots_least, .int)]) [0, 1] rfl
    exact W.iret (v := (-2)) hx hb hr (fun t ht hW => ⟨⟨(-2), (t_roots_prime, t_roots_least), rfl, hv, by rw [ht]; exact hP9, va_K.moved hW.alike hK9, hD9⟩, hS.F ht⟩) hS.2.2 dX5_lift_26
def mX5_near_s_b26 (N : Nat) (y0_p : Int32) (r2 : Int32) (y0_a : Int32) (y0_b : Int32) (st : Int32 × Int32 × (Nat → Int32)) : Option ((Int32 × Int32 × (Nat → Int32)) ⊕ ((Int32 × Int32 × (Nat → Int32)) ⊕ (Int32 × Int32 × (Nat → Int32)))) :=
  match st with
  | (x3, x4, x5) => if y0_p ≤ x3 then some (.inr (.inl (x3, x4, x5))) else if y0_p = 0 then none else mi_let (mi_rem (r2 + x3) y0_p) (fun v11 => (mX3_lesserAt N x4 x5 y0_p y0_a y0_b v11).bind (fun r12 => match r12 with | (r15, u13, f14) => if r15 = (-1) then mi_let (x3 + 1) (fun v17 => some (.inl (v17, u13, f14))) else some (.inr (.inr (r15, u13, f14)))))
def mX5_near_s (N : Nat) (t_roots_prime : Int32) (t_roots_least : Nat → Int32) (y0_p : Int32) (y0_a : Int32) (y0_b : Int32) (a0 : Int32) (a1 : Int32) : Option (Int32 × Int32 × (Nat → Int32)) := (mJ9_floorMod_7cf53 N a1 y0_p).bind (fun r2 => (mi_run (mX5_near_s_b26 N y0_p r2 y0_a y0_b) N (0, t_roots_prime, t_roots_least)).bind (fun o18 => match o18 with | .inl (y6, y7, y8) => some ((-1), y7, y8) | .inr r19 => some r19))
abbrev rmX5_near_s : Room := { frames := 3, cells := 0, slots := 0, locals := 67 }
set_option maxHeartbeats 4000000 in
set_option maxRecDepth 100000 in
theorem ctX5_near_s (l : Launch) (N : Nat) (dC : Nat → ClassId) (dI : Nat → Nat → Nat) (sz : Nat) (h0 : Nat) (h0_held : Nat) (h0_roots : Nat) (h0_survey : Nat) (h0_roots_least : Nat) (y0 : Nat) (h0_survey_strides : Nat) (h0_survey_halvesFound : Nat) (k_t_held : ClassId) (k_t_roots_least : ClassId) (t_size : Int32) (t_held : Nat → Option Nat) (t_roots_prime : Int32) (t_roots_least : Nat → Int32) (y0_p : Int32) (y0_a : Int32) (y0_b : Int32) (y0_from : Int32) (y0_kernelPoint : Int32) (y0_kernelOrder : Int32) (y0_points : Int32) (y0_inner : Int32) (y0_outer : Int32) (y0_makersFound : Int32) (y0_first : Int32) (y0_second : Int32) (a0 : Int32) (a1 : Int32) (rr : Int32 × Int32 × (Nat → Int32)) (h : mX5_near_s N t_roots_prime t_roots_least y0_p y0_a y0_b a0 a1 = some rr) (hk0 : mX5_at N t_size t_held a0 = some (some y0)) : Met l yX5_near wsX5_near rmX5_near_s (va_Pc [.ref h0, .int a0, .int a1] (fun U => U.heap.size = sz ∧ va_P (dC, dI) vwCl [(h0, .inr (4, [.ref h0_held, .int t_size, .ref h0_roots, .ref h0_survey])), (h0_held, .inl (k_t_held, 24, .inr (.inr (.inr (.inr t_held))))), (h0_roots, .inr (1, [.ref h0_roots_least, .int t_roots_prime])), (h0_survey, .inr (3, [.ref h0_roots, .ref h0_survey_strides, .ref h0_survey_halvesFound])), (h0_roots_least, .inl (k_t_roots_least, 10007, .inl t_roots_least)), (y0, .inr (0, [.int y0_p, .int y0_a, .int y0_b, .int y0_from, .int y0_kernelPoint, .int y0_kernelOrder, .int y0_points, .int y0_inner, .int y0_outer, .int y0_makersFound, .int y0_first, .int y0_second]))] U.heap ∧ va_K (dC, dI) vwCl [(k_t_held, .object "PointRings$Curve"), (k_t_roots_least, .int)] U ∧ nw_all U ∧ va_D (fun _ => True) [(h0, .inr (4, [.ref h0_held, .int t_size, .ref h0_roots, .ref h0_survey])), (h0_held, .inl (k_t_held, 24, .inr (.inr (.inr (.inr t_held))))), (h0_roots, .inr (1, [.ref h0_roots_least, .int t_roots_prime])), (h0_survey, .inr (3, [.ref h0_roots, .ref h0_survey_strides, .ref h0_survey_halvesFound])), (h0_roots_least, .inl (k_t_roots_least, 10007, .inl t_roots_least)), (y0, .inr (0, [.int y0_p, .int y0_a, .int y0_b, .int y0_from, .int y0_kernelPoint, .int y0_kernelOrder, .int y0_points, .int y0_inner, .int y0_outer, .int y0_makersFound, .int y0_first, .int y0_second]))])) (va_Qi (fun (r : Int32) (u : Int32 × (Nat → Int32)) => (r, u) = rr) (fun (u : Int32 × (Nat → Int32)) t => match u with | (u0, u1) => va_P (dC, dI) vwCl [(h0, .inr (4, [.ref h0_held, .int t_size, .ref h0_roots, .ref h0_survey])), (h0_held, .inl (k_t_held, 24, .inr (.inr (.inr (.inr t_held))))), (h0_roots, .inr (1, [.ref h0_roots_least, .int u0])), (h0_survey, .inr (3, [.ref h0_roots, .ref h0_survey_strides, .ref h0_survey_halvesFound])), (h0_roots_least, .inl (k_t_roots_least, 10007, .inl u1)), (y0, .inr (0, [.int y0_p, .int y0_a, .int y0_b, .int y0_from, .int y0_kernelPoint, .int y0_kernelOrder, .int y0_points, .int y0_inner, .int y0_outer, .int y0_makersFound, .int y0_first, .int y0_second]))] t.heap ∧ va_K (dC, dI) vwCl [(k_t_held, .object "PointRings$Curve"), (k_t_roots_least, .int)] t ∧ va_D (va_A [(h0, .inr (4, [.ref h0_held, .int t_size, .ref h0_roots, .ref h0_survey])), (h0_held, .inl (k_t_held, 24, .inr (.inr (.inr (.inr t_held))))), (h0_roots, .inr (1, [.ref h0_roots_least, .int t_roots_prime])), (h0_survey, .inr (3, [.ref h0_roots, .ref h0_survey_strides, .ref h0_survey_halvesFound])), (h0_roots_least, .inl (k_t_roots_least, 10007, .inl t_roots_least)), (y0, .inr (0, [.int y0_p, .int y0_a, .int y0_b, .int y0_from, .int y0_kernelPoint, .int y0_kernelOrder, .int y0_points, .int y0_inner, .int y0_outer, .int y0_makersFound, .int y0_first, .int y0_second]))] sz) [(h0, .inr (4, [.ref h0_held, .int t_size, .ref h0_roots, .ref h0_survey])), (h0_held, .inl (k_t_held, 24, .inr (.inr (.inr (.inr t_held))))), (h0_roots, .inr (1, [.ref h0_roots_least, .int u0])), (h0_survey, .inr (3, [.ref h0_roots, .ref h0_survey_strides, .ref h0_survey_halvesFound])), (h0_roots_least, .inl (k_t_roots_least, 10007, .inl u1)), (y0, .inr (0, [.int y0_p, .int y0_a, .int y0_b, .int y0_from, .int y0_kernelPoint, .int y0_kernelOrder, .int y0_points, .int y0_inner, .int y0_outer, .int y0_makersFound, .int y0_first, .int y0_second]))]) (va_A [(h0, .inr (4, [.ref h0_held, .int t_size, .ref h0_roots, .ref h0_survey])), (h0_held, .inl (k_t_held, 24, .inr (.inr (.inr (.inr t_held))))), (h0_roots, .inr (1, [.ref h0_roots_least, .int t_roots_prime])), (h0_survey, .inr (3, [.ref h0_roots, .ref h0_survey_strides, .ref h0_survey_halvesFound])), (h0_roots_least, .inl (k_t_roots_least, 10007, .inl t_roots_least)), (y0, .inr (0, [.int y0_p, .int y0_a, .int y0_b, .int y0_from, .int y0_kernelPoint, .int y0_kernelOrder, .int y0_points, .int y0_inner, .int y0_outer, .int y0_makersFound, .int y0_first, .int y0_second]))] sz)) 0 0 (va_A [(h0, .inr (4, [.ref h0_held, .int t_size, .ref h0_roots, .ref h0_survey])), (h0_held, .inl (k_t_held, 24, .inr (.inr (.inr (.inr t_held))))), (h0_roots, .inr (1, [.ref h0_roots_least, .int t_roots_prime])), (h0_survey, .inr (3, [.ref h0_roots, .ref h0_survey_strides, .ref h0_survey_halvesFound])), (h0_roots_least, .inl (k_t_roots_least, 10007, .inl t_roots_least)), (y0, .inr (0, [.int y0_p, .int y0_a, .int y0_b, .int y0_from, .int y0_kernelPoint, .int y0_kernelOrder, .int y0_points, .int y0_inner, .int y0_outer, .int y0_makersFound, .int y0_first, .int y0_second]))] sz) := by
  refine Met.ofW (cc := cX5_near) (maxL := 7) (ret := (some .int)) (by decide) rfl ?_
  intro p e s m args below meth c s₁ B hml hv
  obtain ⟨rfl, hsz, hP, hK, hN, hD0⟩ := hv
  have hx := B.exec
  have hb := B.bytes
  have hr := B.returns
  have hts := atoms_spec (ws := wsX5_near) B.pre
  have hown : s.vm.findClass RX5 = some m.cls := findClass_of_methodNamed B.named
  have hlocks := B.notSynchronized
  subst hsz
  have hD := hD0.self (sz := s.heap.size)
  generalize hAe : va_A [(h0, .inr (4, [.ref h0_held, .int t_size, .ref h0_roots, .ref h0_survey])), (h0_held, .inl (k_t_held, 24, .inr (.inr (.inr (.inr t_held))))), (h0_roots, .inr (1, [.ref h0_roots_least, .int t_roots_prime])), (h0_survey, .inr (3, [.ref h0_roots, .ref h0_survey_strides, .ref h0_survey_halvesFound])), (h0_roots_least, .inl (k_t_roots_least, 10007, .inl t_roots_least)), (y0, .inr (0, [.int y0_p, .int y0_a, .int y0_b, .int y0_from, .int y0_kernelPoint, .int y0_kernelOrder, .int y0_points, .int y0_inner, .int y0_outer, .int y0_makersFound, .int y0_first, .int y0_second]))] s.heap.size = A at hD ⊢
  have hA0 : ∀ q : Nat, s.heap.size ≤ q → A q := fun q h => by rw [← hAe]; exact Or.inr h
  have hS : va_S A s.heap s.heap [] := va_S.rf
  have hP : va_P (dC, dI) vwCl [(h0, .inr (4, [.ref h0_held, .int t_size, .ref h0_roots, .ref h0_survey])), (h0_held, .inl (k_t_held, 24, .inr (.inr (.inr (.inr t_held))))), (h0_roots, .inr (1, [.ref h0_roots_least, .int t_roots_prime])), (h0_survey, .inr (3, [.ref h0_roots, .ref h0_survey_strides, .ref h0_survey_halvesFound])), (h0_roots_least, .inl (k_t_roots_least, 10007, .inl t_roots_least)), (y0, .inr (0, [.int y0_p, .int y0_a, .int y0_b, .int y0_from, .int y0_kernelPoint, .int y0_kernelOrder, .int y0_points, .int y0_inner, .int y0_outer, .int y0_makersFound, .int y0_first, .int y0_second]))] s.heap := hP
  have hl := lv_entry ([.ref h0, .int a0, .int a1]) (n := 7) (Nat.le_of_ble_eq_true rfl)
  rw [lg_entry_eq]
  generalize (lg_sl ([.ref h0, .int a0, .int a1]) ++ List.replicate (7 - (lg_sl ([.ref h0, .int a0, .int a1])).length) Slot.unset).toArray = ls at hl ⊢
  have hl : lv_has ls 7 [(0, .ref h0), (1, .int a0), (2, .int a1)] := hl
  dsimp only [mX5_near_s] at h
  refine lv_aload_n hx hb dX5_near_0 rfl (lv_at hl 0 rfl) ?_
  refine lv_iload_n hx hb dX5_near_1 rfl (lv_at hl 1 rfl) ?_
  have hPc := hP.sub (ws' := [(h0, .inr (4, [.ref h0_held, .int t_size, .ref h0_roots, .ref h0_survey])), (h0_held, .inl (k_t_held, 24, .inr (.inr (.inr (.inr t_held)))))]) [0, 1] rfl
  have hKc := hK.sub (tys' := [(k_t_held, .object "PointRings$Curve")]) [0] rfl
  refine va_csq (W.runV (As := [.int a0]) (rest := []) ⟨hx, hb, hml, hown, hts⟩ (ctX5_at l N dC dI  h0 h0_held h0_roots h0_survey k_t_held t_size t_held a0 (some y0) hk0) (cwV 1 hts gX5_near_X5_at rfl rfl rfl (by decide +kernel) ⟨Nat.le_of_ble_eq_true rfl, Nat.le_of_ble_eq_true rfl⟩) ⟨fun a U g mk q => by obtain ⟨q0, qP, qK, qN⟩ := q; exact ⟨q0, qP, va_K.moved (u := U) (U := U.calling g mk a) (Vm.Alike.refl U.vm) qK, nw_same (u := U) (U := U.calling g mk a) rfl qN⟩, va_recv hKc hPc (ci := 4) (q0 := 0) rfl rfl, fun U hU hW => ⟨rfl, by rw [hU]; exact hPc, va_K.moved hW.alike hKc, nw_warm hW hN⟩⟩ rfl rfl hl.1 rfl (lv_room (Nat.le_of_ble_eq_true rfl)) dX5_near_2 ⟨Nat.le_of_ble_eq_true rfl, Nat.le_of_ble_eq_true rfl⟩) (fun q9 eq9 => ?_)
  subst q9
  refine lv_astore_n (lv' := [(3, .ref y0), (0, .ref h0), (1, .int a0), (2, .int a1)]) hx hb dX5_near_5 rfl hl (by decide) rfl (fun ls hl => ?_)
  refine lv_aload_n hx hb dX5_near_6 rfl (lv_at hl 0 rfl) ?_
  refine lv_ifnonnull (tgt := 13) hx hb dX5_near_7 (by decide) ?_
  refine lv_iload_n hx hb dX5_near_13 rfl (lv_at hl 3 rfl) ?_
  refine lv_aload_n hx hb dX5_near_14 rfl (lv_at hl 0 rfl) ?_
  refine va_get (D := (dC, dI)) (ci := 0) (v := .int y0_p) (C := RX0) (T := TX0) (N := 12) hx hb hts (by decide +kernel) hown hK hP 5 rfl rfl 0 (by decide) (hts (.fieldLink RX5 60 "PointRings$Curve" "p" "I") (by decide +kernel)) (fun _ h9 => h9) rfl dX5_near_15 ?_
  obtain ⟨r2, hr2, h⟩ := Option.bind_eq_some_iff.mp h
  refine vp_callSi (W.runS (As := [.int a1, .int y0_p]) (rest := []) ⟨hx, hb, hml, hown, hts⟩ (ctJ9_floorMod_7cf53 l N  a1 y0_p r2 hr2) (va_cwS 2 hts gX5_near_J9_floorMod_7cf53 rfl rfl rfl (by decide +kernel) ⟨Nat.le_of_ble_eq_true rfl, Nat.le_of_ble_eq_true rfl⟩) preEq rfl rfl hl.1 rfl (lv_room (Nat.le_of_ble_eq_true rfl)) dX5_near_18 ⟨Nat.le_of_ble_eq_true rfl, Nat.le_of_ble_eq_true rfl⟩) (fun q9 eq9 => ?_)
  subst q9
  refine lv_istore (lv' := [(4, .int r2), (3, .ref y0), (0, .ref h0), (1, .int a0), (2, .int a1)]) hx hb dX5_near_21 hl (by decide) rfl (fun ls hl => ?_)
  refine lv_iconst (v := 0) hx hb dX5_near_23 (by decide) ?_
  refine lv_istore (lv' := [(5, .int 0), (4, .int r2), (3, .ref y0), (0, .ref h0), (1, .int a0), (2, .int a1)]) hx hb dX5_near_24 hl (by decide) rfl (fun ls hl => ?_)
  have L26 : ∀ (n : Nat) (x3 : Int32) (x4 : Int32) (x5 : Nat → Int32) (o : (Int32 × Int32 × (Nat → Int32)) ⊕ (Int32 × Int32 × (Nat → Int32))), mi_run (mX5_near_s_b26 N y0_p r2 y0_a y0_b) n (x3, x4, x5) = some o → (∀ (y6 : Int32) (y7 : Int32) (y8 : Nat → Int32), o = .inl (y6, y7, y8) → ∀ (H : Heap) (locs : List Loc) (ls : Array Slot), va_P (dC, dI) vwCl [(h0, .inr (4, [.ref h0_held, .int t_size, .ref h0_roots, .ref h0_survey])), (h0_held, .inl (k_t_held, 24, .inr (.inr (.inr (.inr t_held))))), (h0_roots, .inr (1, [.ref h0_roots_least, .int y7])), (h0_survey, .inr (3, [.ref h0_roots, .ref h0_survey_strides, .ref h0_survey_halvesFound])), (h0_roots_least, .inl (k_t_roots_least, 10007, .inl y8)), (y0, .inr (0, [.int y0_p, .int y0_a, .int y0_b, .int y0_from, .int y0_kernelPoint, .int y0_kernelOrder, .int y0_points, .int y0_inner, .int y0_outer, .int y0_makersFound, .int y0_first, .int y0_second]))] H → va_D A [(h0, .inr (4, [.ref h0_held, .int t_size, .ref h0_roots, .ref h0_survey])), (h0_held, .inl (k_t_held, 24, .inr (.inr (.inr (.inr t_held))))), (h0_roots, .inr (1, [.ref h0_roots_least, .int y7])), (h0_survey, .inr (3, [.ref h0_roots, .ref h0_survey_strides, .ref h0_survey_halvesFound])), (h0_roots_least, .inl (k_t_roots_least, 10007, .inl y8)), (y0, .inr (0, [.int y0_p, .int y0_a, .int y0_b, .int y0_from, .int y0_kernelPoint, .int y0_kernelOrder, .int y0_points, .int y0_inner, .int y0_outer, .int y0_makersFound, .int y0_first, .int y0_second]))] → va_S A s.heap H locs → lv_has ls 7 [(5, .int y6), (4, .int r2), (3, .ref y0), (0, .ref h0), (1, .int a0), (2, .int a1)] → W p l e (headSpec wsX5_near rmX5_near_s).room s m (([.ref h0, .int a0, .int a1] : List Value).toArray) below meth c H locs 0 0 (MQ below (va_Qi (fun (r : Int32) (u : Int32 × (Nat → Int32)) => (r, u) = rr) (fun (u : Int32 × (Nat → Int32)) t => match u with | (u0, u1) => va_P (dC, dI) vwCl [(h0, .inr (4, [.ref h0_held, .int t_size, .ref h0_roots, .ref h0_survey])), (h0_held, .inl (k_t_held, 24, .inr (.inr (.inr (.inr t_held))))), (h0_roots, .inr (1, [.ref h0_roots_least, .int u0])), (h0_survey, .inr (3, [.ref h0_roots, .ref h0_survey_strides, .ref h0_survey_halvesFound])), (h0_roots_least, .inl (k_t_roots_least, 10007, .inl u1)), (y0, .inr (0, [.int y0_p, .int y0_a, .int y0_b, .int y0_from, .int y0_kernelPoint, .int y0_kernelOrder, .int y0_points, .int y0_inner, .int y0_outer, .int y0_makersFound, .int y0_first, .int y0_second]))] t.heap ∧ va_K (dC, dI) vwCl [(k_t_held, .object "PointRings$Curve"), (k_t_roots_least, .int)] t ∧ va_D (A) [(h0, .inr (4, [.ref h0_held, .int t_size, .ref h0_roots, .ref h0_survey])), (h0_held, .inl (k_t_held, 24, .inr (.inr (.inr (.inr t_held))))), (h0_roots, .inr (1, [.ref h0_roots_least, .int u0])), (h0_survey, .inr (3, [.ref h0_roots, .ref h0_survey_strides, .ref h0_survey_halvesFound])), (h0_roots_least, .inl (k_t_roots_least, 10007, .inl u1)), (y0, .inr (0, [.int y0_p, .int y0_a, .int y0_b, .int y0_from, .int y0_kernelPoint, .int y0_kernelOrder, .int y0_points, .int y0_inner, .int y0_outer, .int y0_makersFound, .int y0_first, .int y0_second]))]) (A)) (([.ref h0, .int a0, .int a1] : List Value).toArray) s 0 0 A) (F0 m 70 ls [])) → (∀ v : Int32 × Int32 × (Nat → Int32), o = .inr v → v = rr) → ∀ (H : Heap) (locs : List Loc) (ls : Array Slot), va_P (dC, dI) vwCl [(h0, .inr (4, [.ref h0_held, .int t_size, .ref h0_roots, .ref h0_survey])), (h0_held, .inl (k_t_held, 24, .inr (.inr (.inr (.inr t_held))))), (h0_roots, .inr (1, [.ref h0_roots_least, .int x4])), (h0_survey, .inr (3, [.ref h0_roots, .ref h0_survey_strides, .ref h0_survey_halvesFound])), (h0_roots_least, .inl (k_t_roots_least, 10007, .inl x5)), (y0, .inr (0, [.int y0_p, .int y0_a, .int y0_b, .int y0_from, .int y0_kernelPoint, .int y0_kernelOrder, .int y0_points, .int y0_inner, .int y0_outer, .int y0_makersFound, .int y0_first, .int y0_second]))] H → va_D A [(h0, .inr (4, [.ref h0_held, .int t_size, .ref h0_roots, .ref h0_survey])), (h0_held, .inl (k_t_held, 24, .inr (.inr (.inr (.inr t_held))))), (h0_roots, .inr (1, [.ref h0_roots_least, .int x4])), (h0_survey, .inr (3, [.ref h0_roots, .ref h0_survey_strides, .ref h0_survey_halvesFound])), (h0_roots_least, .inl (k_t_roots_least, 10007, .inl x5)), (y0, .inr (0, [.int y0_p, .int y0_a, .int y0_b, .int y0_from, .int y0_kernelPoint, .int y0_kernelOrder, .int y0_points, .int y0_inner, .int y0_outer, .int y0_makersFound, .int y0_first, .int y0_second]))] → va_S A s.heap H locs → lv_has ls 7 [(5, .int x3), (4, .int r2), (3, .ref y0), (0, .ref h0), (1, .int a0), (2, .int a1)] → W p l e (headSpec wsX5_near rmX5_near_s).room s m (([.ref h0, .int a0, .int a1] : List Value).toArray) below meth c H locs 0 0 (MQ below (va_Qi (fun (r : Int32) (u : Int32 × (Nat → Int32)) => (r, u) = rr) (fun (u : Int32 × (Nat → Int32)) t => match u with | (u0, u1) => va_P (dC, dI) vwCl [(h0, .inr (4, [.ref h0_held, .int t_size, .ref h0_roots, .ref h0_survey])), (h0_held, .inl (k_t_held, 24, .inr (.inr (.inr (.inr t_held))))), (h0_roots, .inr (1, [.ref h0_roots_least, .int u0])), (h0_survey, .inr (3, [.ref h0_roots, .ref h0_survey_strides, .ref h0_survey_halvesFound])), (h0_roots_least, .inl (k_t_roots_least, 10007, .inl u1)), (y0, .inr (0, [.int y0_p, .int y0_a, .int y0_b, .int y0_from, .int y0_kernelPoint, .int y0_kernelOrder, .int y0_points, .int y0_inner, .int y0_outer, .int y0_makersFound, .int y0_first, .int y0_second]))] t.heap ∧ va_K (dC, dI) vwCl [(k_t_held, .object "PointRings$Curve"), (k_t_roots_least, .int)] t ∧ va_D (A) [(h0, .inr (4, [.ref h0_held, .int t_size, .ref h0_roots, .ref h0_survey])), (h0_held, .inl (k_t_held, 24, .inr (.inr (.inr (.inr t_held))))), (h0_roots, .inr (1, [.ref h0_roots_least, .int u0])), (h0_survey, .inr (3, [.ref h0_roots, .ref h0_survey_strides, .ref h0_survey_halvesFound])), (h0_roots_least, .inl (k_t_roots_least, 10007, .inl u1)), (y0, .inr (0, [.int y0_p, .int y0_a, .int y0_b, .int y0_from, .int y0_kernelPoint, .int y0_kernelOrder, .int y0_points, .int y0_inner, .int y0_outer, .int y0_makersFound, .int y0_first, .int y0_second]))]) (A)) (([.ref h0, .int a0, .int a1] : List Value).toArray) s 0 0 A) (F0 m 26 ls []) := by
    intro n
    induction n with
    | zero => intro x3 x4 x5 o h; exact absurd h (mi_run_0 _ _ _)
    | succ n ih =>
      intro x3 x4 x5 o h hkE hkR H locs ls hP hD hS hl
      obtain ⟨w, h, hA, hB⟩ := mi_run_s h
      dsimp only [mX5_near_s_b26] at h
      refine lv_iload hx hb dX5_near_26 (lv_at hl 0 rfl) ?_
      refine lv_aload_n hx hb dX5_near_28 rfl (lv_at hl 2 rfl) ?_
      refine va_get (D := (dC, dI)) (ci := 0) (v := .int y0_p) (C := RX0) (T := TX0) (N := 12) hx hb hts (by decide +kernel) hown hK hP 5 rfl rfl 0 (by decide) (hts (.fieldLink RX5 60 "PointRings$Curve" "p" "I") (by decide +kernel)) (fun _ h9 => h9) rfl dX5_near_29 ?_
      refine lv_icmp_ge (tgt := 70) hx hb dX5_near_32 (by decide) (fun c9 => ?_) (fun c9 => ?_)
      · replace h := (if_pos c9).symm.trans h
        exact hkE _ _ _ (hB _ (Option.some.inj h).symm) _ _ ls hP hD hS (lv_sub hl [0, 1, 2, 3, 4, 5] rfl)
      · replace h := (if_neg c9).symm.trans h
        refine lv_aload_n hx hb dX5_near_35 rfl (lv_at hl 3 rfl) ?_
        refine va_get (D := (dC, dI)) (ci := 4) (v := .ref h0_survey) (C := RX5) (T := TX5) (N := 4) hx hb hts (by decide +kernel) hown hK hP 0 rfl rfl 3 (by decide) (hts (.fieldLink RX5 31 "PointRings" "survey" "LPointRings$Survey;") (by decide +kernel)) (fun _ h9 => h9) rfl dX5_near_36 ?_
        refine lv_aload_n hx hb dX5_near_39 rfl (lv_at hl 2 rfl) ?_
        refine lv_iload hx hb dX5_near_40 (lv_at hl 1 rfl) ?_
        refine lv_iload hx hb dX5_near_42 (lv_at hl 0 rfl) ?_
        refine lv_iadd hx hb dX5_near_44 ?_
        refine lv_aload_n hx hb dX5_near_45 rfl (lv_at hl 2 rfl) ?_
        refine va_get (D := (dC, dI)) (ci := 0) (v := .int y0_p) (C := RX0) (T := TX0) (N := 12) hx hb hts (by decide +kernel) hown hK hP 5 rfl rfl 0 (by decide) (hts (.fieldLink RX5 60 "PointRings$Curve" "p" "I") (by decide +kernel)) (fun _ h9 => h9) rfl dX5_near_46 ?_
        have hn10 : ¬ y0_p = 0 := fun hz => absurd ((if_pos hz).symm.trans h) (fun hh => nomatch hh)
        replace h := (if_neg hn10).symm.trans h
        refine lv_irem hx hb dX5_near_49 hn10 ?_
        refine lv_topi (fun v11 ev11 => ?_)
        replace h := mi_use ev11 h
        obtain ⟨r12, hr12, h⟩ := Option.bind_eq_some_iff.mp h
        have hPc := hP.sub (ws' := [(h0_survey, .inr (3, [.ref h0_roots, .ref h0_survey_strides, .ref h0_survey_halvesFound])), (h0_roots, .inr (1, [.ref h0_roots_least, .int x4])), (h0_roots_least, .inl (k_t_roots_least, 10007, .inl x5)), (y0, .inr (0, [.int y0_p, .int y0_a, .int y0_b, .int y0_from, .int y0_kernelPoint, .int y0_kernelOrder, .int y0_points, .int y0_inner, .int y0_outer, .int y0_makersFound, .int y0_first, .int y0_second]))]) [3, 2, 4, 5] rfl
        have hDc := hD.sub (ws' := [(h0_survey, .inr (3, [.ref h0_roots, .ref h0_survey_strides, .ref h0_survey_halvesFound])), (h0_roots, .inr (1, [.ref h0_roots_least, .int x4])), (h0_roots_least, .inl (k_t_roots_least, 10007, .inl x5)), (y0, .inr (0, [.int y0_p, .int y0_a, .int y0_b, .int y0_from, .int y0_kernelPoint, .int y0_kernelOrder, .int y0_points, .int y0_inner, .int y0_outer, .int y0_makersFound, .int y0_first, .int y0_second]))]) [3, 2, 4, 5] (by decide) rfl
        have hKc := hK.sub (tys' := [(k_t_roots_least, .int)]) [1] rfl
        have hFc := va_free (wc := [(h0_survey, .inr (3, [.ref h0_roots, .ref h0_survey_strides, .ref h0_survey_halvesFound])), (h0_roots, .inr (1, [.ref h0_roots_least, .int x4])), (h0_roots_least, .inl (k_t_roots_least, 10007, .inl x5)), (y0, .inr (0, [.int y0_p, .int y0_a, .int y0_b, .int y0_from, .int y0_kernelPoint, .int y0_kernelOrder, .int y0_points, .int y0_inner, .int y0_outer, .int y0_makersFound, .int y0_first, .int y0_second]))]) hD hS hA0 [3, 2, 4, 5] rfl
        refine va_calli (va_runV (As := [.ref y0, .int v11]) (rest := []) ⟨hx, hb, hml, hown, hts⟩ (ctX3_lesserAt l N dC dI _ h0_survey h0_roots h0_roots_least y0 h0_survey_strides h0_survey_halvesFound k_t_roots_least x4 x5 y0_p y0_a y0_b y0_from y0_kernelPoint y0_kernelOrder y0_points y0_inner y0_outer y0_makersFound y0_first y0_second v11 r12 hr12) (cwV 2 hts gX5_near_X3_lesserAt rfl rfl rfl (by decide +kernel) ⟨Nat.le_of_ble_eq_true rfl, Nat.le_of_ble_eq_true rfl⟩) ⟨fun a U g mk q => by obtain ⟨q0, q1, qP, qK, qN, qD⟩ := q; exact ⟨q0, q1, qP, va_K.moved (u := U) (U := U.calling g mk a) (Vm.Alike.refl U.vm) qK, nw_same (u := U) (U := U.calling g mk a) rfl qN, qD⟩, va_recv hKc hPc (ci := 3) (q0 := 0) rfl rfl, fun U hU hW => ⟨rfl, by rw [hU], by rw [hU]; exact hPc, va_K.moved hW.alike hKc, nw_warm hW hN, hDc.weaken (fun _ _ _ _ => trivial)⟩⟩ rfl rfl hl.1 rfl (lv_room (Nat.le_of_ble_eq_true rfl)) dX5_near_50 ⟨Nat.le_of_ble_eq_true rfl, Nat.le_of_ble_eq_true rfl⟩) hS (fun q _ h => hFc q h) hFc (fun rz u t H1 locs ht hvm hw hB1 hz1 hk1 hS => ?_)
        obtain ⟨u13, f14⟩ := u
        obtain ⟨hP1, hK1, hD1⟩ := hB1
        rw [ht] at hP1
        have hK1 := va_K.moved hvm.symm hK1
        obtain ⟨r15, rfl⟩ : ∃ z, z = rz := ⟨_, rfl⟩
        subst hw
        try dsimp only at h
        obtain ⟨hP, hD⟩ := va_join (wr := [(h0, .inr (4, [.ref h0_held, .int t_size, .ref h0_roots, .ref h0_survey])), (h0_held, .inl (k_t_held, 24, .inr (.inr (.inr (.inr t_held)))))]) (w1 := [(h0_survey, .inr (3, [.ref h0_roots, .ref h0_survey_strides, .ref h0_survey_halvesFound])), (h0_roots, .inr (1, [.ref h0_roots_least, .int u13])), (h0_roots_least, .inl (k_t_roots_least, 10007, .inl f14)), (y0, .inr (0, [.int y0_p, .int y0_a, .int y0_b, .int y0_from, .int y0_kernelPoint, .int y0_kernelOrder, .int y0_points, .int y0_inner, .int y0_outer, .int y0_makersFound, .int y0_first, .int y0_second]))]) hP hD [3, 2, 4, 5] [0, 1] rfl rfl (by decide) (by decide) hk1 hFc hP1 hD1
        generalize H1 = H at hP hS ⊢
        have hP := hP.sub (ws' := [(h0, .inr (4, [.ref h0_held, .int t_size, .ref h0_roots, .ref h0_survey])), (h0_held, .inl (k_t_held, 24, .inr (.inr (.inr (.inr t_held))))), (h0_roots, .inr (1, [.ref h0_roots_least, .int u13])), (h0_survey, .inr (3, [.ref h0_roots, .ref h0_survey_strides, .ref h0_survey_halvesFound])), (h0_roots_least, .inl (k_t_roots_least, 10007, .inl f14)), (y0, .inr (0, [.int y0_p, .int y0_a, .int y0_b, .int y0_from, .int y0_kernelPoint, .int y0_kernelOrder, .int y0_points, .int y0_inner, .int y0_outer, .int y0_makersFound, .int y0_first, .int y0_second]))]) [0, 1, 3, 2, 4, 5] rfl
        have hD := hD.sub (ws' := [(h0, .inr (4, [.ref h0_held, .int t_size, .ref h0_roots, .ref h0_survey])), (h0_held, .inl (k_t_held, 24, .inr (.inr (.inr (.inr t_held))))), (h0_roots, .inr (1, [.ref h0_roots_least, .int u13])), (h0_survey, .inr (3, [.ref h0_roots, .ref h0_survey_strides, .ref h0_survey_halvesFound])), (h0_roots_least, .inl (k_t_roots_least, 10007, .inl f14)), (y0, .inr (0, [.int y0_p, .int y0_a, .int y0_b, .int y0_from, .int y0_kernelPoint, .int y0_kernelOrder, .int y0_points, .int y0_inner, .int y0_outer, .int y0_makersFound, .int y0_first, .int y0_second]))]) [0, 1, 3, 2, 4, 5] (by decide) rfl
        refine lv_istore (lv' := [(6, .int r15), (5, .int x3), (4, .int r2), (3, .ref y0), (0, .ref h0), (1, .int a0), (2, .int a1)]) hx hb dX5_near_53 hl (by decide) rfl (fun ls hl => ?_)
        refine lv_iload hx hb dX5_near_55 (lv_at hl 0 rfl) ?_
        refine lv_iconst (v := (-1)) hx hb dX5_near_57 (by decide) ?_
        refine lv_icmp_eq (tgt := 64) hx hb dX5_near_58 (by decide) (fun c16 => ?_) (fun c16 => ?_)
        · replace h := (if_pos c16).symm.trans h
          obtain ⟨v17, ev17⟩ : ∃ z : Int32, z = x3 + 1 := ⟨_, rfl⟩
          refine lv_iinc (v := v17) (lv' := [(5, .int v17), (6, .int r15), (4, .int r2), (3, .ref y0), (0, .ref h0), (1, .int a0), (2, .int a1)]) hx hb dX5_near_64 hl (k := 1) rfl (by rw [ev17]; rfl) (by decide) rfl (fun ls hl => ?_)
          replace h := mi_use ev17 h
          refine lv_goto (tgt := 26) hx hb dX5_near_67 (by decide) ?_
          exact ih _ _ _ _ (hA _ (Option.some.inj h).symm) hkE hkR _ _ ls hP hD hS (lv_sub hl [0, 2, 3, 4, 5, 6] rfl)
        · replace h := (if_neg c16).symm.trans h
          refine lv_iload hx hb dX5_near_61 (lv_at hl 0 rfl) ?_
          have hv : (r15, u13, f14) = rr := hkR _ (hB _ (Option.some.inj h).symm)
          have hP9 := hP.sub (ws' := [(h0, .inr (4, [.ref h0_held, .int t_size, .ref h0_roots, .ref h0_survey])), (h0_held, .inl (k_t_held, 24, .inr (.inr (.inr (.inr t_held))))), (h0_roots, .inr (1, [.ref h0_roots_least, .int u13])), (h0_survey, .inr (3, [.ref h0_roots, .ref h0_survey_strides, .ref h0_survey_halvesFound])), (h0_roots_least, .inl (k_t_roots_least, 10007, .inl f14)), (y0, .inr (0, [.int y0_p, .int y0_a, .int y0_b, .int y0_from, .int y0_kernelPoint, .int y0_kernelOrder, .int y0_points, .int y0_inner, .int y0_outer, .int y0_makersFound, .int y0_first, .int y0_second]))]) [0, 1, 2, 3, 4, 5] rfl
          have hD9 := hD.sub (ws' := [(h0, .inr (4, [.ref h0_held, .int t_size, .ref h0_roots, .ref h0_survey])), (h0_held, .inl (k_t_held, 24, .inr (.inr (.inr (.inr t_held))))), (h0_roots, .inr (1, [.ref h0_roots_least, .int u13])), (h0_survey, .inr (3, [.ref h0_roots, .ref h0_survey_strides, .ref h0_survey_halvesFound])), (h0_roots_least, .inl (k_t_roots_least, 10007, .inl f14)), (y0, .inr (0, [.int y0_p, .int y0_a, .int y0_b, .int y0_from, .int y0_kernelPoint, .int y0_kernelOrder, .int y0_points, .int y0_inner, .int y0_outer, .int y0_makersFound, .int y0_first, .int y0_second]))]) [0, 1, 2, 3, 4, 5] (by decide) rfl
          have hK9 := hK.sub (tys' := [(k_t_held, .object "PointRings$Curve"), (k_t_roots_least, .int)]) [0, 1] rfl
          exact W.iret (v := r15) hx hb hr (fun t ht hW => ⟨⟨r15, (u13, f14), rfl, hv, by rw [ht]; exact hP9, va_K.moved hW.alike hK9, hD9⟩, hS.F ht⟩) hS.2.2 dX5_near_63
  obtain ⟨o18, ho18, h⟩ := Option.bind_eq_some_iff.mp h
  refine L26 N _ _ _ o18 ho18 ?_ ?_ _ _ ls hP hD hS (lv_sub hl [0, 1, 2, 3, 4, 5] rfl)
  · intro y6 y7 y8 eo H locs ls hP hD hS hl
    subst eo
    try dsimp only at h
    refine lv_iconst (v := (-1)) hx hb dX5_near_70 (by decide) ?_
    have hv : ((-1), y7, y8) = rr := Option.some.inj h
    have hP9 := hP.sub (ws' := [(h0, .inr (4, [.ref h0_held, .int t_size, .ref h0_roots, .ref h0_survey])), (h0_held, .inl (k_t_held, 24, .inr (.inr (.inr (.inr t_held))))), (h0_roots, .inr (1, [.ref h0_roots_least, .int y7])), (h0_survey, .inr (3, [.ref h0_roots, .ref h0_survey_strides, .ref h0_survey_halvesFound])), (h0_roots_least, .inl (k_t_roots_least, 10007, .inl y8)), (y0, .inr (0, [.int y0_p, .int y0_a, .int y0_b, .int y0_from, .int y0_kernelPoint, .int y0_kernelOrder, .int y0_points, .int y0_inner, .int y0_outer, .int y0_makersFound, .int y0_first, .int y0_second]))]) [0, 1, 2, 3, 4, 5] rfl
    have hD9 := hD.sub (ws' := [(h0, .inr (4, [.ref h0_held, .int t_size, .ref h0_roots, .ref h0_survey])), (h0_held, .inl (k_t_held, 24, .inr (.inr (.inr (.inr t_held))))), (h0_roots, .inr (1, [.ref h0_roots_least, .int y7])), (h0_survey, .inr (3, [.ref h0_roots, .ref h0_survey_strides, .ref h0_survey_halvesFound])), (h0_roots_least, .inl (k_t_roots_least, 10007, .inl y8)), (y0, .inr (0, [.int y0_p, .int y0_a, .int y0_b, .int y0_from, .int y0_kernelPoint, .int y0_kernelOrder, .int y0_points, .int y0_inner, .int y0_outer, .int y0_makersFound, .int y0_first, .int y0_second]))]) [0, 1, 2, 3, 4, 5] (by decide) rfl
    have hK9 := hK.sub (tys' := [(k_t_held, .object "PointRings$Curve"), (k_t_roots_least, .int)]) [0, 1] rfl
    exact W.iret (v := (-1)) hx hb hr (fun t ht hW => ⟨⟨(-1), (y7, y8), rfl, hv, by rw [ht]; exact hP9, va_K.moved hW.alike hK9, hD9⟩, hS.F ht⟩) hS.2.2 dX5_near_71
  · intro r19 eo
    subst eo
    try dsimp only at h
    exact Option.some.inj h
def mX5_nth_s (N : Nat) (t_roots_prime : Int32) (t_roots_least : Nat → Int32) (y0_p : Int32) (y0_a : Int32) (y0_b : Int32) (a0 : Int32) (a1 : Int32) : Option (Int32 × Int32 × (Nat → Int32)) := if a1 = 0 then some ((-1), t_roots_prime, t_roots_least) else (mX3_pointNumber N t_roots_prime t_roots_least y0_p y0_a y0_b a1).bind (fun r3 => match r3 with | (r6, u4, f5) => some (r6, u4, f5))
abbrev rmX5_nth_s : Room := { frames := 4, cells := 0, slots := 0, locals := 93 }
set_option maxHeartbeats 4000000 in
set_option maxRecDepth 100000 in
theorem ctX5_nth_s (l : Launch) (N : Nat) (dC : Nat → ClassId) (dI : Nat → Nat → Nat) (sz : Nat) (h0 : Nat) (h0_held : Nat) (h0_roots : Nat) (h0_survey : Nat) (h0_roots_least : Nat) (y0 : Nat) (h0_survey_strides : Nat) (h0_survey_halvesFound : Nat) (k_t_held : ClassId) (k_t_roots_least : ClassId) (t_size : Int32) (t_held : Nat → Option Nat) (t_roots_prime : Int32) (t_roots_least : Nat → Int32) (y0_p : Int32) (y0_a : Int32) (y0_b : Int32) (y0_from : Int32) (y0_kernelPoint : Int32) (y0_kernelOrder : Int32) (y0_points : Int32) (y0_inner : Int32) (y0_outer : Int32) (y0_makersFound : Int32) (y0_first : Int32) (y0_second : Int32) (a0 : Int32) (a1 : Int32) (rr : Int32 × Int32 × (Nat → Int32)) (h : mX5_nth_s N t_roots_prime t_roots_least y0_p y0_a y0_b a0 a1 = some rr) (hk0 : mX5_at N t_size t_held a0 = some (some y0)) : Met l yX5_nth wsX5_nth rmX5_nth_s (va_Pc [.ref h0, .int a0, .int a1] (fun U => U.heap.size = sz ∧ va_P (dC, dI) vwCl [(h0, .inr (4, [.ref h0_held, .int t_size, .ref h0_roots, .ref h0_survey])), (h0_held, .inl (k_t_held, 24, .inr (.inr (.inr (.inr t_held))))), (h0_roots, .inr (1, [.ref h0_roots_least, .int t_roots_prime])), (h0_survey, .inr (3, [.ref h0_roots, .ref h0_survey_strides, .ref h0_survey_halvesFound])), (h0_roots_least, .inl (k_t_roots_least, 10007, .inl t_roots_least)), (y0, .inr (0, [.int y0_p, .int y0_a, .int y0_b, .int y0_from, .int y0_kernelPoint, .int y0_kernelOrder, .int y0_points, .int y0_inner, .int y0_outer, .int y0_makersFound, .int y0_first, .int y0_second]))] U.heap ∧ va_K (dC, dI) vwCl [(k_t_held, .object "PointRings$Curve"), (k_t_roots_least, .int)] U ∧ nw_all U ∧ va_D (fun _ => True) [(h0, .inr (4, [.ref h0_held, .int t_size, .ref h0_roots, .ref h0_survey])), (h0_held, .inl (k_t_held, 24, .inr (.inr (.inr (.inr t_held))))), (h0_roots, .inr (1, [.ref h0_roots_least, .int t_roots_prime])), (h0_survey, .inr (3, [.ref h0_roots, .ref h0_survey_strides, .ref h0_survey_halvesFound])), (h0_roots_least, .inl (k_t_roots_least, 10007, .inl t_roots_least)), (y0, .inr (0, [.int y0_p, .int y0_a, .int y0_b, .int y0_from, .int y0_kernelPoint, .int y0_kernelOrder, .int y0_points, .int y0_inner, .int y0_outer, .int y0_makersFound, .int y0_first, .int y0_second]))])) (va_Qi (fun (r : Int32) (u : Int32 × (Nat → Int32)) => (r, u) = rr) (fun (u : Int32 × (Nat → Int32)) t => match u with | (u0, u1) => va_P (dC, dI) vwCl [(h0, .inr (4, [.ref h0_held, .int t_size, .ref h0_roots, .ref h0_survey])), (h0_held, .inl (k_t_held, 24, .inr (.inr (.inr (.inr t_held))))), (h0_roots, .inr (1, [.ref h0_roots_least, .int u0])), (h0_survey, .inr (3, [.ref h0_roots, .ref h0_survey_strides, .ref h0_survey_halvesFound])), (h0_roots_least, .inl (k_t_roots_least, 10007, .inl u1)), (y0, .inr (0, [.int y0_p, .int y0_a, .int y0_b, .int y0_from, .int y0_kernelPoint, .int y0_kernelOrder, .int y0_points, .int y0_inner, .int y0_outer, .int y0_makersFound, .int y0_first, .int y0_second]))] t.heap ∧ va_K (dC, dI) vwCl [(k_t_held, .object "PointRings$Curve"), (k_t_roots_least, .int)] t ∧ va_D (va_A [(h0, .inr (4, [.ref h0_held, .int t_size, .ref h0_roots, .ref h0_survey])), (h0_held, .inl (k_t_held, 24, .inr (.inr (.inr (.inr t_held))))), (h0_roots, .inr (1, [.ref h0_roots_least, .int t_roots_prime])), (h0_survey, .inr (3, [.ref h0_roots, .ref h0_survey_strides, .ref h0_survey_halvesFound])), (h0_roots_least, .inl (k_t_roots_least, 10007, .inl t_roots_least)), (y0, .inr (0, [.int y0_p, .int y0_a, .int y0_b, .int y0_from, .int y0_kernelPoint, .int y0_kernelOrder, .int y0_points, .int y0_inner, .int y0_outer, .int y0_makersFound, .int y0_first, .int y0_second]))] sz) [(h0, .inr (4, [.ref h0_held, .int t_size, .ref h0_roots, .ref h0_survey])), (h0_held, .inl (k_t_held, 24, .inr (.inr (.inr (.inr t_held))))), (h0_roots, .inr (1, [.ref h0_roots_least, .int u0])), (h0_survey, .inr (3, [.ref h0_roots, .ref h0_survey_strides, .ref h0_survey_halvesFound])), (h0_roots_least, .inl (k_t_roots_least, 10007, .inl u1)), (y0, .inr (0, [.int y0_p, .int y0_a, .int y0_b, .int y0_from, .int y0_kernelPoint, .int y0_kernelOrder, .int y0_points, .int y0_inner, .int y0_outer, .int y0_makersFound, .int y0_first, .int y0_second]))]) (va_A [(h0, .inr (4, [.ref h0_held, .int t_size, .ref h0_roots, .ref h0_survey])), (h0_held, .inl (k_t_held, 24, .inr (.inr (.inr (.inr t_held))))), (h0_roots, .inr (1, [.ref h0_roots_least, .int t_roots_prime])), (h0_survey, .inr (3, [.ref h0_roots, .ref h0_survey_strides, .ref h0_survey_halvesFound])), (h0_roots_least, .inl (k_t_roots_least, 10007, .inl t_roots_least)), (y0, .inr (0, [.int y0_p, .int y0_a, .int y0_b, .int y0_from, .int y0_kernelPoint, .int y0_kernelOrder, .int y0_points, .int y0_inner, .int y0_outer, .int y0_makersFound, .int y0_first, .int y0_second]))] sz)) 0 0 (va_A [(h0, .inr (4, [.ref h0_held, .int t_size, .ref h0_roots, .ref h0_survey])), (h0_held, .inl (k_t_held, 24, .inr (.inr (.inr (.inr t_held))))), (h0_roots, .inr (1, [.ref h0_roots_least, .int t_roots_prime])), (h0_survey, .inr (3, [.ref h0_roots, .ref h0_survey_strides, .ref h0_survey_halvesFound])), (h0_roots_least, .inl (k_t_roots_least, 10007, .inl t_roots_least)), (y0, .inr (0, [.int y0_p, .int y0_a, .int y0_b, .int y0_from, .int y0_kernelPoint, .int y0_kernelOrder, .int y0_points, .int y0_inner, .int y0_outer, .int y0_makersFound, .int y0_first, .int y0_second]))] sz) := by
  refine Met.ofW (cc := cX5_nth) (maxL := 4) (ret := (some .int)) (by decide) rfl ?_
  intro p e s m args below meth c s₁ B hml hv
  obtain ⟨rfl, hsz, hP, hK, hN, hD0⟩ := hv
  have hx := B.exec
  have hb := B.bytes
  have hr := B.returns
  have hts := atoms_spec (ws := wsX5_nth) B.pre
  have hown : s.vm.findClass RX5 = some m.cls := findClass_of_methodNamed B.named
  have hlocks := B.notSynchronized
  subst hsz
  have hD := hD0.self (sz := s.heap.size)
  generalize hAe : va_A [(h0, .inr (4, [.ref h0_held, .int t_size, .ref h0_roots, .ref h0_survey])), (h0_held, .inl (k_t_held, 24, .inr (.inr (.inr (.inr t_held))))), (h0_roots, .inr (1, [.ref h0_roots_least, .int t_roots_prime])), (h0_survey, .inr (3, [.ref h0_roots, .ref h0_survey_strides, .ref h0_survey_halvesFound])), (h0_roots_least, .inl (k_t_roots_least, 10007, .inl t_roots_least)), (y0, .inr (0, [.int y0_p, .int y0_a, .int y0_b, .int y0_from, .int y0_kernelPoint, .int y0_kernelOrder, .int y0_points, .int y0_inner, .int y0_outer, .int y0_makersFound, .int y0_first, .int y0_second]))] s.heap.size = A at hD ⊢
  have hA0 : ∀ q : Nat, s.heap.size ≤ q → A q := fun q h => by rw [← hAe]; exact Or.inr h
  have hS : va_S A s.heap s.heap [] := va_S.rf
  have hP : va_P (dC, dI) vwCl [(h0, .inr (4, [.ref h0_held, .int t_size, .ref h0_roots, .ref h0_survey])), (h0_held, .inl (k_t_held, 24, .inr (.inr (.inr (.inr t_held))))), (h0_roots, .inr (1, [.ref h0_roots_least, .int t_roots_prime])), (h0_survey, .inr (3, [.ref h0_roots, .ref h0_survey_strides, .ref h0_survey_halvesFound])), (h0_roots_least, .inl (k_t_roots_least, 10007, .inl t_roots_least)), (y0, .inr (0, [.int y0_p, .int y0_a, .int y0_b, .int y0_from, .int y0_kernelPoint, .int y0_kernelOrder, .int y0_points, .int y0_inner, .int y0_outer, .int y0_makersFound, .int y0_first, .int y0_second]))] s.heap := hP
  have hl := lv_entry ([.ref h0, .int a0, .int a1]) (n := 4) (Nat.le_of_ble_eq_true rfl)
  rw [lg_entry_eq]
  generalize (lg_sl ([.ref h0, .int a0, .int a1]) ++ List.replicate (4 - (lg_sl ([.ref h0, .int a0, .int a1])).length) Slot.unset).toArray = ls at hl ⊢
  have hl : lv_has ls 4 [(0, .ref h0), (1, .int a0), (2, .int a1)] := hl
  dsimp only [mX5_nth_s] at h
  refine lv_aload_n hx hb dX5_nth_0 rfl (lv_at hl 0 rfl) ?_
  refine lv_iload_n hx hb dX5_nth_1 rfl (lv_at hl 1 rfl) ?_
  have hPc := hP.sub (ws' := [(h0, .inr (4, [.ref h0_held, .int t_size, .ref h0_roots, .ref h0_survey])), (h0_held, .inl (k_t_held, 24, .inr (.inr (.inr (.inr t_held)))))]) [0, 1] rfl
  have hKc := hK.sub (tys' := [(k_t_held, .object "PointRings$Curve")]) [0] rfl
  refine va_csq (W.runV (As := [.int a0]) (rest := []) ⟨hx, hb, hml, hown, hts⟩ (ctX5_at l N dC dI  h0 h0_held h0_roots h0_survey k_t_held t_size t_held a0 (some y0) hk0) (cwV 1 hts gX5_nth_X5_at rfl rfl rfl (by decide +kernel) ⟨Nat.le_of_ble_eq_true rfl, Nat.le_of_ble_eq_true rfl⟩) ⟨fun a U g mk q => by obtain ⟨q0, qP, qK, qN⟩ := q; exact ⟨q0, qP, va_K.moved (u := U) (U := U.calling g mk a) (Vm.Alike.refl U.vm) qK, nw_same (u := U) (U := U.calling g mk a) rfl qN⟩, va_recv hKc hPc (ci := 4) (q0 := 0) rfl rfl, fun U hU hW => ⟨rfl, by rw [hU]; exact hPc, va_K.moved hW.alike hKc, nw_warm hW hN⟩⟩ rfl rfl hl.1 rfl (lv_room (Nat.le_of_ble_eq_true rfl)) dX5_nth_2 ⟨Nat.le_of_ble_eq_true rfl, Nat.le_of_ble_eq_true rfl⟩) (fun q9 eq9 => ?_)
  subst q9
  refine lv_astore_n (lv' := [(3, .ref y0), (0, .ref h0), (1, .int a0), (2, .int a1)]) hx hb dX5_nth_5 rfl hl (by decide) rfl (fun ls hl => ?_)
  refine lv_aload_n hx hb dX5_nth_6 rfl (lv_at hl 0 rfl) ?_
  refine lv_ifnonnull (tgt := 13) hx hb dX5_nth_7 (by decide) ?_
  refine lv_iload_n hx hb dX5_nth_13 rfl (lv_at hl 3 rfl) ?_
  refine lv_if_ne (tgt := 21) hx hb dX5_nth_14 (by decide) (fun c2 => ?_) (fun c2 => ?_)
  · replace h := (if_neg c2).symm.trans h
    refine lv_aload_n hx hb dX5_nth_21 rfl (lv_at hl 1 rfl) ?_
    refine va_get (D := (dC, dI)) (ci := 4) (v := .ref h0_survey) (C := RX5) (T := TX5) (N := 4) hx hb hts (by decide +kernel) hown hK hP 0 rfl rfl 3 (by decide) (hts (.fieldLink RX5 31 "PointRings" "survey" "LPointRings$Survey;") (by decide +kernel)) (fun _ h9 => h9) rfl dX5_nth_22 ?_
    refine lv_aload_n hx hb dX5_nth_25 rfl (lv_at hl 0 rfl) ?_
    refine lv_iload_n hx hb dX5_nth_26 rfl (lv_at hl 3 rfl) ?_
    obtain ⟨r3, hr3, h⟩ := Option.bind_eq_some_iff.mp h
    have hPc := hP.sub (ws' := [(h0_survey, .inr (3, [.ref h0_roots, .ref h0_survey_strides, .ref h0_survey_halvesFound])), (h0_roots, .inr (1, [.ref h0_roots_least, .int t_roots_prime])), (h0_roots_least, .inl (k_t_roots_least, 10007, .inl t_roots_least)), (y0, .inr (0, [.int y0_p, .int y0_a, .int y0_b, .int y0_from, .int y0_kernelPoint, .int y0_kernelOrder, .int y0_points, .int y0_inner, .int y0_outer, .int y0_makersFound, .int y0_first, .int y0_second]))]) [3, 2, 4, 5] rfl
    have hDc := hD.sub (ws' := [(h0_survey, .inr (3, [.ref h0_roots, .ref h0_survey_strides, .ref h0_survey_halvesFound])), (h0_roots, .inr (1, [.ref h0_roots_least, .int t_roots_prime])), (h0_roots_least, .inl (k_t_roots_least, 10007, .inl t_roots_least)), (y0, .inr (0, [.int y0_p, .int y0_a, .int y0_b, .int y0_from, .int y0_kernelPoint, .int y0_kernelOrder, .int y0_points, .int y0_inner, .int y0_outer, .int y0_makersFound, .int y0_first, .int y0_second]))]) [3, 2, 4, 5] (by decide) rfl
    have hKc := hK.sub (tys' := [(k_t_roots_least, .int)]) [1] rfl
    have hFc := va_free (wc := [(h0_survey, .inr (3, [.ref h0_roots, .ref h0_survey_strides, .ref h0_survey_halvesFound])), (h0_roots, .inr (1, [.ref h0_roots_least, .int t_roots_prime])), (h0_roots_least, .inl (k_t_roots_least, 10007, .inl t_roots_least)), (y0, .inr (0, [.int y0_p, .int y0_a, .int y0_b, .int y0_from, .int y0_kernelPoint, .int y0_kernelOrder, .int y0_points, .int y0_inner, .int y0_outer, .int y0_makersFound, .int y0_first, .int y0_second]))]) hD hS hA0 [3, 2, 4, 5] rfl
    refine va_calli (va_runV (As := [.ref y0, .int a1]) (rest := []) ⟨hx, hb, hml, hown, hts⟩ (ctX3_pointNumber l N dC dI _ h0_survey h0_roots h0_roots_least y0 h0_survey_strides h0_survey_halvesFound k_t_roots_least t_roots_prime t_roots_least y0_p y0_a y0_b y0_from y0_kernelPoint y0_kernelOrder y0_points y0_inner y0_outer y0_makersFound y0_first y0_second a1 r3 hr3) (cwV 2 hts gX5_nth_X3_pointNumber rfl rfl rfl (by decide +kernel) ⟨Nat.le_of_ble_eq_true rfl, Nat.le_of_ble_eq_true rfl⟩) ⟨fun a U g mk q => by obtain ⟨q0, q1, qP, qK, qN, qD⟩ := q; exact ⟨q0, q1, qP, va_K.moved (u := U) (U := U.calling g mk a) (Vm.Alike.refl U.vm) qK, nw_same (u := U) (U := U.calling g mk a) rfl qN, qD⟩, va_recv hKc hPc (ci := 3) (q0 := 0) rfl rfl, fun U hU hW => ⟨rfl, by rw [hU], by rw [hU]; exact hPc, va_K.moved hW.alike hKc, nw_warm hW hN, hDc.weaken (fun _ _ _ _ => trivial)⟩⟩ rfl rfl hl.1 rfl (lv_room (Nat.le_of_ble_eq_true rfl)) dX5_nth_27 ⟨Nat.le_of_ble_eq_true rfl, Nat.le_of_ble_eq_true rfl⟩) hS (fun q _ h => hFc q h) hFc (fun rz u t H1 locs ht hvm hw hB1 hz1 hk1 hS => ?_)
    obtain ⟨u4, f5⟩ := u
    obtain ⟨hP1, hK1, hD1⟩ := hB1
    rw [ht] at hP1
    have hK1 := va_K.moved hvm.symm hK1
    obtain ⟨r6, rfl⟩ : ∃ z, z = rz := ⟨_, rfl⟩
    subst hw
    try dsimp only at h
    obtain ⟨hP, hD⟩ := va_join (wr := [(h0, .inr (4, [.ref h0_held, .int t_size, .ref h0_roots, .ref h0_survey])), (h0_held, .inl (k_t_held, 24, .inr (.inr (.inr (.inr t_held)))))]) (w1 := [(h0_survey, .inr (3, [.ref h0_roots, .ref h0_survey_strides, .ref h0_survey_halvesFound])), (h0_roots, .inr (1, [.ref h0_roots_least, .int u4])), (h0_roots_least, .inl (k_t_roots_least, 10007, .inl f5)), (y0, .inr (0, [.int y0_p, .int y0_a, .int y0_b, .int y0_from, .int y0_kernelPoint, .int y0_kernelOrder, .int y0_points, .int y0_inner, .int y0_outer, .int y0_makersFound, .int y0_first, .int y0_second]))]) hP hD [3, 2, 4, 5] [0, 1] rfl rfl (by decide) (by decide) hk1 hFc hP1 hD1
    generalize H1 = H at hP hS ⊢
    have hP := hP.sub (ws' := [(h0, .inr (4, [.ref h0_held, .int t_size, .ref h0_roots, .ref h0_survey])), (h0_held, .inl (k_t_held, 24, .inr (.inr (.inr (.inr t_held))))), (h0_roots, .inr (1, [.ref h0_roots_least, .int u4])), (h0_survey, .inr (3, [.ref h0_roots, .ref h0_survey_strides, .ref h0_survey_halvesFound])), (h0_roots_least, .inl (k_t_roots_least, 10007, .inl f5)), (y0, .inr (0, [.int y0_p, .int y0_a, .int y0_b, .int y0_from, .int y0_kernelPoint, .int y0_kernelOrder, .int y0_points, .int y0_inner, .int y0_outer, .int y0_makersFound, .int y0_first, .int y0_second]))]) [0, 1, 3, 2, 4, 5] rfl
    have hD := hD.sub (ws' := [(h0, .inr (4, [.ref h0_held, .int t_size, .ref h0_roots, .ref h0_survey])), (h0_held, .inl (k_t_held, 24, .inr (.inr (.inr (.inr t_held))))), (h0_roots, .inr (1, [.ref h0_roots_least, .int u4])), (h0_survey, .inr (3, [.ref h0_roots, .ref h0_survey_strides, .ref h0_survey_halvesFound])), (h0_roots_least, .inl (k_t_roots_least, 10007, .inl f5)), (y0, .inr (0, [.int y0_p, .int y0_a, .int y0_b, .int y0_from, .int y0_kernelPoint, .int y0_kernelOrder, .int y0_points, .int y0_inner, .int y0_outer, .int y0_makersFound, .int y0_first, .int y0_second]))]) [0, 1, 3, 2, 4, 5] (by decide) rfl
    have hv : (r6, u4, f5) = rr := Option.some.inj h
    have hP9 := hP.sub (ws' := [(h0, .inr (4, [.ref h0_held, .int t_size, .ref h0_roots, .ref h0_survey])), (h0_held, .inl (k_t_held, 24, .inr (.inr (.inr (.inr t_held))))), (h0_roots, .inr (1, [.ref h0_roots_least, .int u4])), (h0_survey, .inr (3, [.ref h0_roots, .ref h0_survey_strides, .ref h0_survey_halvesFound])), (h0_roots_least, .inl (k_t_roots_least, 10007, .inl f5)), (y0, .inr (0, [.int y0_p, .int y0_a, .int y0_b, .int y0_from, .int y0_kernelPoint, .int y0_kernelOrder, .int y0_points, .int y0_inner, .int y0_outer, .int y0_makersFound, .int y0_first, .int y0_second]))]) [0, 1, 2, 3, 4, 5] rfl
    have hD9 := hD.sub (ws' := [(h0, .inr (4, [.ref h0_held, .int t_size, .ref h0_roots, .ref h0_survey])), (h0_held, .inl (k_t_held, 24, .inr (.inr (.inr (.inr t_held))))), (h0_roots, .inr (1, [.ref h0_roots_least, .int u4])), (h0_survey, .inr (3, [.ref h0_roots, .ref h0_survey_strides, .ref h0_survey_halvesFound])), (h0_roots_least, .inl (k_t_roots_least, 10007, .inl f5)), (y0, .inr (0, [.int y0_p, .int y0_a, .int y0_b, .int y0_from, .int y0_kernelPoint, .int y0_kernelOrder, .int y0_points, .int y0_inner, .int y0_outer, .int y0_makersFound, .int y0_first, .int y0_second]))]) [0, 1, 2, 3, 4, 5] (by decide) rfl
    have hK9 := hK.sub (tys' := [(k_t_held, .object "PointRings$Curve"), (k_t_roots_least, .int)]) [0, 1] rfl
    exact W.iret (v := r6) hx hb hr (fun t ht hW => ⟨⟨r6, (u4, f5), rfl, hv, by rw [ht]; exact hP9, va_K.moved hW.alike hK9, hD9⟩, hS.F ht⟩) hS.2.2 dX5_nth_30
  · replace h := (if_pos c2).symm.trans h
    refine lv_iconst (v := (-1)) hx hb dX5_nth_17 (by decide) ?_
    refine lv_goto (tgt := 30) hx hb dX5_nth_18 (by decide) ?_
    have hv : ((-1), t_roots_prime, t_roots_least) = rr := Option.some.inj h
    have hP9 := hP.sub (ws' := [(h0, .inr (4, [.ref h0_held, .int t_size, .ref h0_roots, .ref h0_survey])), (h0_held, .inl (k_t_held, 24, .inr (.inr (.inr (.inr t_held))))), (h0_roots, .inr (1, [.ref h0_roots_least, .int t_roots_prime])), (h0_survey, .inr (3, [.ref h0_roots, .ref h0_survey_strides, .ref h0_survey_halvesFound])), (h0_roots_least, .inl (k_t_roots_least, 10007, .inl t_roots_least)), (y0, .inr (0, [.int y0_p, .int y0_a, .int y0_b, .int y0_from, .int y0_kernelPoint, .int y0_kernelOrder, .int y0_points, .int y0_inner, .int y0_outer, .int y0_makersFound, .int y0_first, .int y0_second]))]) [0, 1, 2, 3, 4, 5] rfl
    have hD9 := hD.sub (ws' := [(h0, .inr (4, [.ref h0_held, .int t_size, .ref h0_roots, .ref h0_survey])), (h0_held, .inl (k_t_held, 24, .inr (.inr (.inr (.inr t_held))))), (h0_roots, .inr (1, [.ref h0_roots_least, .int t_roots_prime])), (h0_survey, .inr (3, [.ref h0_roots, .ref h0_survey_strides, .ref h0_survey_halvesFound])), (h0_roots_least, .inl (k_t_roots_least, 10007, .inl t_roots_least)), (y0, .inr (0, [.int y0_p, .int y0_a, .int y0_b, .int y0_from, .int y0_kernelPoint, .int y0_kernelOrder, .int y0_points, .int y0_inner, .int y0_outer, .int y0_makersFound, .int y0_first, .int y0_second]))]) [0, 1, 2, 3, 4, 5] (by decide) rfl
    have hK9 := hK.sub (tys' := [(k_t_held, .object "PointRings$Curve"), (k_t_roots_least, .int)]) [0, 1] rfl
    exact W.iret (v := (-1)) hx hb hr (fun t ht hW => ⟨⟨(-1), (t_roots_prime, t_roots_least), rfl, hv, by rw [ht]; exact hP9, va_K.moved hW.alike hK9, hD9⟩, hS.F ht⟩) hS.2.2 dX5_nth_30
def mX5_rank_s (N : Nat) (t_roots_prime : Int32) (t_roots_least : Nat → Int32) (y0_p : Int32) (y0_a : Int32) (y0_b : Int32) (a0 : Int32) (a1 : Int32) : Option (Int32 × Int32 × (Nat → Int32)) := (mX0_holds N y0_p y0_a y0_b a1).bind (fun r2 => if r2 = 0 then some ((-2), t_roots_prime, t_roots_least) else if a1 = (-1) then some (0, t_roots_prime, t_roots_least) else (mX3_pointsAhead N t_roots_prime t_roots_least y0_p y0_a y0_b a1).bind (fun r5 => match r5 with | (r8, u6, f7) => some (r8, u6, f7)))
abbrev rmX5_rank_s : Room := { frames := 4, cells := 0, slots := 0, locals := 91 }
set_option maxHeartbeats 4000000 in
set_option maxRecDepth 100000 in
theorem ctX5_rank_s (l : Launch) (N : Nat) (dC : Nat → ClassId) (dI : Nat → Nat → Nat) (sz : Nat) (h0 : Nat) (h0_held : Nat) (h0_roots : Nat) (h0_survey : Nat) (h0_roots_least : Nat) (y0 : Nat) (h0_survey_strides : Nat) (h0_survey_halvesFound : Nat) (k_t_held : ClassId) (k_t_roots_least : ClassId) (t_size : Int32) (t_held : Nat → Option Nat) (t_roots_prime : Int32) (t_roots_least : Nat → Int32) (y0_p : Int32) (y0_a : Int32) (y0_b : Int32) (y0_from : Int32) (y0_kernelPoint : Int32) (y0_kernelOrder : Int32) (y0_points : Int32) (y0_inner : Int32) (y0_outer : Int32) (y0_makersFound : Int32) (y0_first : Int32) (y0_second : Int32) (a0 : Int32) (a1 : Int32) (rr : Int32 × Int32 × (Nat → Int32)) (h : mX5_rank_s N t_roots_prime t_roots_least y0_p y0_a y0_b a0 a1 = some rr) (hk0 : mX5_at N t_size t_held a0 = some (some y0)) : Met l yX5_rank wsX5_rank rmX5_rank_s (va_Pc [.ref h0, .int a0, .int a1] (fun U => U.heap.size = sz ∧ va_P (dC, dI) vwCl [(h0, .inr (4, [.ref h0_held, .int t_size, .ref h0_roots, .ref h0_survey])), (h0_held, .inl (k_t_held, 24, .inr (.inr (.inr (.inr t_held))))), (h0_roots, .inr (1, [.ref h0_roots_least, .int t_roots_prime])), (h0_survey, .inr (3, [.ref h0_roots, .ref h0_survey_strides, .ref h0_survey_halvesFound])), (h0_roots_least, .inl (k_t_roots_least, 10007, .inl t_roots_least)), (y0, .inr (0, [.int y0_p, .int y0_a, .int y0_b, .int y0_from, .int y0_kernelPoint, .int y0_kernelOrder, .int y0_points, .int y0_inner, .int y0_outer, .int y0_makersFound, .int y0_first, .int y0_second]))] U.heap ∧ va_K (dC, dI) vwCl [(k_t_held, .object "PointRings$Curve"), (k_t_roots_least, .int)] U ∧ nw_all U ∧ va_D (fun _ => True) [(h0, .inr (4, [.ref h0_held, .int t_size, .ref h0_roots, .ref h0_survey])), (h0_held, .inl (k_t_held, 24, .inr (.inr (.inr (.inr t_held))))), (h0_roots, .inr (1, [.ref h0_roots_least, .int t_roots_prime])), (h0_survey, .inr (3, [.ref h0_roots, .ref h0_survey_strides, .ref h0_survey_halvesFound])), (h0_roots_least, .inl (k_t_roots_least, 10007, .inl t_roots_least)), (y0, .inr (0, [.int y0_p, .int y0_a, .int y0_b, .int y0_from, .int y0_kernelPoint, .int y0_kernelOrder, .int y0_points, .int y0_inner, .int y0_outer, .int y0_makersFound, .int y0_first, .int y0_second]))])) (va_Qi (fun (r : Int32) (u : Int32 × (Nat → Int32)) => (r, u) = rr) (fun (u : Int32 × (Nat → Int32)) t => match u with | (u0, u1) => va_P (dC, dI) vwCl [(h0, .inr (4, [.ref h0_held, .int t_size, .ref h0_roots, .ref h0_survey])), (h0_held, .inl (k_t_held, 24, .inr (.inr (.inr (.inr t_held))))), (h0_roots, .inr (1, [.ref h0_roots_least, .int u0])), (h0_survey, .inr (3, [.ref h0_roots, .ref h0_survey_strides, .ref h0_survey_halvesFound])), (h0_roots_least, .inl (k_t_roots_least, 10007, .inl u1)), (y0, .inr (0, [.int y0_p, .int y0_a, .int y0_b, .int y0_from, .int y0_kernelPoint, .int y0_kernelOrder, .int y0_points, .int y0_inner, .int y0_outer, .int y0_makersFound, .int y0_first, .int y0_second]))] t.heap ∧ va_K (dC, dI) vwCl [(k_t_held, .object "PointRings$Curve"), (k_t_roots_least, .int)] t ∧ va_D (va_A [(h0, .inr (4, [.ref h0_held, .int t_size, .ref h0_roots, .ref h0_survey])), (h0_held, .inl (k_t_held, 24, .inr (.inr (.inr (.inr t_held))))), (h0_roots, .inr (1, [.ref h0_roots_least, .int t_roots_prime])), (h0_survey, .inr (3, [.ref h0_roots, .ref h0_survey_strides, .ref h0_survey_halvesFound])), (h0_roots_least, .inl (k_t_roots_least, 10007, .inl t_roots_least)), (y0, .inr (0, [.int y0_p, .int y0_a, .int y0_b, .int y0_from, .int y0_kernelPoint, .int y0_kernelOrder, .int y0_points, .int y0_inner, .int y0_outer, .int y0_makersFound, .int y0_first, .int y0_second]))] sz) [(h0, .inr (4, [.ref h0_held, .int t_size, .ref h0_roots, .ref h0_survey])), (h0_held, .inl (k_t_held, 24, .inr (.inr (.inr (.inr t_held))))), (h0_roots, .inr (1, [.ref h0_roots_least, .int u0])), (h0_survey, .inr (3, [.ref h0_roots, .ref h0_survey_strides, .ref h0_survey_halvesFound])), (h0_roots_least, .inl (k_t_roots_least, 10007, .inl u1)), (y0, .inr (0, [.int y0_p, .int y0_a, .int y0_b, .int y0_from, .int y0_kernelPoint, .int y0_kernelOrder, .int y0_points, .int y0_inner, .int y0_outer, .int y0_makersFound, .int y0_first, .int y0_second]))]) (va_A [(h0, .inr (4, [.ref h0_held, .int t_size, .ref h0_roots, .ref h0_survey])), (h0_held, .inl (k_t_held, 24, .inr (.inr (.inr (.inr t_held))))), (h0_roots, .inr (1, [.ref h0_roots_least, .int t_roots_prime])), (h0_survey, .inr (3, [.ref h0_roots, .ref h0_survey_strides, .ref h0_survey_halvesFound])), (h0_roots_least, .inl (k_t_roots_least, 10007, .inl t_roots_least)), (y0, .inr (0, [.int y0_p, .int y0_a, .int y0_b, .int y0_from, .int y0_kernelPoint, .int y0_kernelOrder, .int y0_points, .int y0_inner, .int y0_outer, .int y0_makersFound, .int y0_first, .int y0_second]))] sz)) 0 0 (va_A [(h0, .inr (4, [.ref h0_held, .int t_size, .ref h0_roots, .ref h0_survey])), (h0_held, .inl (k_t_held, 24, .inr (.inr (.inr (.inr t_held))))), (h0_roots, .inr (1, [.ref h0_roots_least, .int t_roots_prime])), (h0_survey, .inr (3, [.ref h0_roots, .ref h0_survey_strides, .ref h0_survey_halvesFound])), (h0_roots_least, .inl (k_t_roots_least, 10007, .inl t_roots_least)), (y0, .inr (0, [.int y0_p, .int y0_a, .int y0_b, .int y0_from, .int y0_kernelPoint, .int y0_kernelOrder, .int y0_points, .int y0_inner, .int y0_outer, .int y0_makersFound, .int y0_first, .int y0_second]))] sz) := by
  refine Met.ofW (cc := cX5_rank) (maxL := 4) (ret := (some .int)) (by decide) rfl ?_
  intro p e s m args below meth c s₁ B hml hv
  obtain ⟨rfl, hsz, hP, hK, hN, hD0⟩ := hv
  have hx := B.exec
  have hb := B.bytes
  have hr := B.returns
  have hts := atoms_spec (ws := wsX5_rank) B.pre
  have hown : s.vm.findClass RX5 = some m.cls := findClass_of_methodNamed B.named
  have hlocks := B.notSynchronized
  subst hsz
  have hD := hD0.self (sz := s.heap.size)
  generalize hAe : va_A [(h0, .inr (4, [.ref h0_held, .int t_size, .ref h0_roots, .ref h0_survey])), (h0_held, .inl (k_t_held, 24, .inr (.inr (.inr (.inr t_held))))), (h0_roots, .inr (1, [.ref h0_roots_least, .int t_roots_prime])), (h0_survey, .inr (3, [.ref h0_roots, .ref h0_survey_strides, .ref h0_survey_halvesFound])), (h0_roots_least, .inl (k_t_roots_least, 10007, .inl t_roots_least)), (y0, .inr (0, [.int y0_p, .int y0_a, .int y0_b, .int y0_from, .int y0_kernelPoint, .int y0_kernelOrder, .int y0_points, .int y0_inner, .int y0_outer, .int y0_makersFound, .int y0_first, .int y0_second]))] s.heap.size = A at hD ⊢
  have hA0 : ∀ q : Nat, s.heap.size ≤ q → A q := fun q h => by rw [← hAe]; exact Or.inr h
  have hS : va_S A s.heap s.heap [] := va_S.rf
  have hP : va_P (dC, dI) vwCl [(h0, .inr (4, [.ref h0_held, .int t_size, .ref h0_roots, .ref h0_survey])), (h0_held, .inl (k_t_held, 24, .inr (.inr (.inr (.inr t_held))))), (h0_roots, .inr (1, [.ref h0_roots_least, .int t_roots_prime])), (h0_survey, .inr (3, [.ref h0_roots, .ref h0_survey_strides, .ref h0_survey_halvesFound])), (h0_roots_least, .inl (k_t_roots_least, 10007, .inl t_roots_least)), (y0, .inr (0, [.int y0_p, .int y0_a, .int y0_b, .int y0_from, .int y0_kernelPoint, .int y0_kernelOrder, .int y0_points, .int y0_inner, .int y0_outer, .int y0_makersFound, .int y0_first, .int y0_second]))] s.heap := hP
  have hl := lv_entry ([.ref h0, .int a0, .int a1]) (n := 4) (Nat.le_of_ble_eq_true rfl)
  rw [lg_entry_eq]
  generalize (lg_sl ([.ref h0, .int a0, .int a1]) ++ List.replicate (4 - (lg_sl ([.ref h0, .int a0, .int a1])).length) Slot.unset).toArray = ls at hl ⊢
  have hl : lv_has ls 4 [(0, .ref h0), (1, .int a0), (2, .int a1)] := hl
  dsimp only [mX5_rank_s] at h
  refine lv_aload_n hx hb dX5_rank_0 rfl (lv_at hl 0 rfl) ?_
  refine lv_iload_n hx hb dX5_rank_1 rfl (lv_at hl 1 rfl) ?_
  have hPc := hP.sub (ws' := [(h0, .inr (4, [.ref h0_held, .int t_size, .ref h0_roots, .ref h0_survey])), (h0_held, .inl (k_t_held, 24, .inr (.inr (.inr (.inr t_held)))))]) [0, 1] rfl
  have hKc := hK.sub (tys' := [(k_t_held, .object "PointRings$Curve")]) [0] rfl
  refine va_csq (W.runV (As := [.int a0]) (rest := []) ⟨hx, hb, hml, hown, hts⟩ (ctX5_at l N dC dI  h0 h0_held h0_roots h0_survey k_t_held t_size t_held a0 (some y0) hk0) (cwV 1 hts gX5_rank_X5_at rfl rfl rfl (by decide +kernel) ⟨Nat.le_of_ble_eq_true rfl, Nat.le_of_ble_eq_true rfl⟩) ⟨fun a U g mk q => by obtain ⟨q0, qP, qK, qN⟩ := q; exact ⟨q0, qP, va_K.moved (u := U) (U := U.calling g mk a) (Vm.Alike.refl U.vm) qK, nw_same (u := U) (U := U.calling g mk a) rfl qN⟩, va_recv hKc hPc (ci := 4) (q0 := 0) rfl rfl, fun U hU hW => ⟨rfl, by rw [hU]; exact hPc, va_K.moved hW.alike hKc, nw_warm hW hN⟩⟩ rfl rfl hl.1 rfl (lv_room (Nat.le_of_ble_eq_true rfl)) dX5_rank_2 ⟨Nat.le_of_ble_eq_true rfl, Nat.le_of_ble_eq_true rfl⟩) (fun q9 eq9 => ?_)
  subst q9
  refine lv_astore_n (lv' := [(3, .ref y0), (0, .ref h0), (1, .int a0), (2, .int a1)]) hx hb dX5_rank_5 rfl hl (by decide) rfl (fun ls hl => ?_)
  refine lv_aload_n hx hb dX5_rank_6 rfl (lv_at hl 0 rfl) ?_
  refine lv_ifnull hx hb dX5_rank_7 ?_
  refine lv_aload_n hx hb dX5_rank_10 rfl (lv_at hl 0 rfl) ?_
  refine lv_iload_n hx hb dX5_rank_11 rfl (lv_at hl 3 rfl) ?_
  obtain ⟨r2, hr2, h⟩ := Option.bind_eq_some_iff.mp h
  have hPc := hP.sub (ws' := [(y0, .inr (0, [.int y0_p, .int y0_a, .int y0_b, .int y0_from, .int y0_kernelPoint, .int y0_kernelOrder, .int y0_points, .int y0_inner, .int y0_outer, .int y0_makersFound, .int y0_first, .int y0_second]))]) [5] rfl
  have hKc := hK.sub (tys' := []) [] rfl
  refine vp_callSi (W.runV (As := [.int a1]) (rest := []) ⟨hx, hb, hml, hown, hts⟩ (ctX0_holds l N dC dI  y0 y0_p y0_a y0_b y0_from y0_kernelPoint y0_kernelOrder y0_points y0_inner y0_outer y0_makersFound y0_first y0_second a1 r2 hr2) (cwV 1 hts gX5_rank_X0_holds rfl rfl rfl (by decide +kernel) ⟨Nat.le_of_ble_eq_true rfl, Nat.le_of_ble_eq_true rfl⟩) ⟨fun a U g mk q => by obtain ⟨q0, qP, qK, qN⟩ := q; exact ⟨q0, qP, va_K.moved (u := U) (U := U.calling g mk a) (Vm.Alike.refl U.vm) qK, nw_same (u := U) (U := U.calling g mk a) rfl qN⟩, va_recv hKc hPc (ci := 0) (q0 := 0) rfl rfl, fun U hU hW => ⟨rfl, by rw [hU]; exact hPc, va_K.moved hW.alike hKc, nw_warm hW hN⟩⟩ rfl rfl hl.1 rfl (lv_room (Nat.le_of_ble_eq_true rfl)) dX5_rank_12 ⟨Nat.le_of_ble_eq_true rfl, Nat.le_of_ble_eq_true rfl⟩) (fun q9 eq9 => ?_)
  subst q9
  refine lv_if_ne (tgt := 21) hx hb dX5_rank_15 (by decide) (fun c3 => ?_) (fun c3 => ?_)
  · replace h := (if_neg c3).symm.trans h
    refine lv_iload_n hx hb dX5_rank_21 rfl (lv_at hl 3 rfl) ?_
    refine lv_iconst (v := (-1)) hx hb dX5_rank_22 (by decide) ?_
    refine lv_icmp_ne (tgt := 30) hx hb dX5_rank_23 (by decide) (fun c4 => ?_) (fun c4 => ?_)
    · replace h := (if_neg c4).symm.trans h
      refine lv_aload_n hx hb dX5_rank_30 rfl (lv_at hl 1 rfl) ?_
      refine va_get (D := (dC, dI)) (ci := 4) (v := .ref h0_survey) (C := RX5) (T := TX5) (N := 4) hx hb hts (by decide +kernel) hown hK hP 0 rfl rfl 3 (by decide) (hts (.fieldLink RX5 31 "PointRings" "survey" "LPointRings$Survey;") (by decide +kernel)) (fun _ h9 => h9) rfl dX5_rank_31 ?_
      refine lv_aload_n hx hb dX5_rank_34 rfl (lv_at hl 0 rfl) ?_
      refine lv_iload_n hx hb dX5_rank_35 rfl (lv_at hl 3 rfl) ?_
      obtain ⟨r5, hr5, h⟩ := Option.bind_eq_some_iff.mp h
      have hPc := hP.sub (ws' := [(h0_survey, .inr (3, [.ref h0_roots, .ref h0_survey_strides, .ref h0_survey_halvesFound])), (h0_roots, .inr (1, [.ref h0_roots_least, .int t_roots_prime])), (h0_roots_least, .inl (k_t_roots_least, 10007, .inl t_roots_least)), (y0, .inr (0, [.int y0_p, .int y0_a, .int y0_b, .int y0_from, .int y0_kernelPoint, .int y0_kernelOrder, .int y0_points, .int y0_inner, .int y0_outer, .int y0_makersFound, .int y0_first, .int y0_second]))]) [3, 2, 4, 5] rfl
      have hDc := hD.sub (ws' := [(h0_survey, .inr (3, [.ref h0_roots, .ref h0_survey_strides, .ref h0_survey_halvesFound])), (h0_roots, .inr (1, [.ref h0_roots_least, .int t_roots_prime])), (h0_roots_least, .inl (k_t_roots_least, 10007, .inl t_roots_least)), (y0, .inr (0, [.int y0_p, .int y0_a, .int y0_b, .int y0_from, .int y0_kernelPoint, .int y0_kernelOrder, .int y0_points, .int y0_inner, .int y0_outer, .int y0_makersFound, .int y0_first, .int y0_second]))]) [3, 2, 4, 5] (by decide) rfl
      have hKc := hK.sub (tys' := [(k_t_roots_least, .int)]) [1] rfl
      have hFc := va_free (wc := [(h0_survey, .inr (3, [.ref h0_roots, .ref h0_survey_strides, .ref h0_survey_halvesFound])), (h0_roots, .inr (1, [.ref h0_roots_least, .int t_roots_prime])), (h0_roots_least, .inl (k_t_roots_least, 10007, .inl t_roots_least)), (y0, .inr (0, [.int y0_p, .int y0_a, .int y0_b, .int y0_from, .int y0_kernelPoint, .int y0_kernelOrder, .int y0_points, .int y0_inner, .int y0_outer, .int y0_makersFound, .int y0_first, .int y0_second]))]) hD hS hA0 [3, 2, 4, 5] rfl
      refine va_calli (va_runV (As := [.ref y0, .int a1]) (rest := []) ⟨hx, hb, hml, hown, hts⟩ (ctX3_pointsAhead l N dC dI _ h0_survey h0_roots h0_roots_least y0 h0_survey_strides h0_survey_halvesFound k_t_roots_least t_roots_prime t_roots_least y0_p y0_a y0_b y0_from y0_kernelPoint y0_kernelOrder y0_points y0_inner y0_outer y0_makersFound y0_first y0_second a1 r5 hr5) (cwV 2 hts gX5_rank_X3_pointsAhead rfl rfl rfl (by decide +kernel) ⟨Nat.le_of_ble_eq_true rfl, Nat.le_of_ble_eq_true rfl⟩) ⟨fun a U g mk q => by obtain ⟨q0, q1, qP, qK, qN, qD⟩ := q; exact ⟨q0, q1, qP, va_K.moved (u := U) (U := U.calling g mk a) (Vm.Alike.refl U.vm) qK, nw_same (u := U) (U := U.calling g mk a) rfl qN, qD⟩, va_recv hKc hPc (ci := 3) (q0 := 0) rfl rfl, fun U hU hW => ⟨rfl, by rw [hU], by rw [hU]; exact hPc, va_K.moved hW.alike hKc, nw_warm hW hN, hDc.weaken (fun _ _ _ _ => trivial)⟩⟩ rfl rfl hl.1 rfl (lv_room (Nat.le_of_ble_eq_true rfl)) dX5_rank_36 ⟨Nat.le_of_ble_eq_true rfl, Nat.le_of_ble_eq_true rfl⟩) hS (fun q _ h => hFc q h) hFc (fun rz u t H1 locs ht hvm hw hB1 hz1 hk1 hS => ?_)
      obtain ⟨u6, f7⟩ := u
      obtain ⟨hP1, hK1, hD1⟩ := hB1
      rw [ht] at hP1
      have hK1 := va_K.moved hvm.symm hK1
      obtain ⟨r8, rfl⟩ : ∃ z, z = rz := ⟨_, rfl⟩
      subst hw
      try dsimp only at h
      obtain ⟨hP, hD⟩ := va_join (wr := [(h0, .inr (4, [.ref h0_held, .int t_size, .ref h0_roots, .ref h0_survey])), (h0_held, .inl (k_t_held, 24, .inr (.inr (.inr (.inr t_held)))))]) (w1 := [(h0_survey, .inr (3, [.ref h0_roots, .ref h0_survey_strides, .ref h0_survey_halvesFound])), (h0_roots, .inr (1, [.ref h0_roots_least, .int u6])), (h0_roots_least, .inl (k_t_roots_least, 10007, .inl f7)), (y0, .inr (0, [.int y0_p, .int y0_a, .int y0_b, .int y0_from, .int y0_kernelPoint, .int y0_kernelOrder, .int y0_points, .int y0_inner, .int y0_outer, .int y0_makersFound, .int y0_first, .int y0_second]))]) hP hD [3, 2, 4, 5] [0, 1] rfl rfl (by decide) (by decide) hk1 hFc hP1 hD1
      generalize H1 = H at hP hS ⊢
      have hP := hP.sub (ws' := [(h0, .inr (4, [.ref h0_held, .int t_size, .ref h0_roots, .ref h0_survey])), (h0_held, .inl (k_t_held, 24, .inr (.inr (.inr (.inr t_held))))), (h0_roots, .inr (1, [.ref h0_roots_least, .int u6])), (h0_survey, .inr (3, [.ref h0_roots, .ref h0_survey_strides, .ref h0_survey_halvesFound])), (h0_roots_least, .inl (k_t_roots_least, 10007, .inl f7)), (y0, .inr (0, [.int y0_p, .int y0_a, .int y0_b, .int y0_from, .int y0_kernelPoint, .int y0_kernelOrder, .int y0_points, .int y0_inner, .int y0_outer, .int y0_makersFound, .int y0_first, .int y0_second]))]) [0, 1, 3, 2, 4, 5] rfl
      have hD := hD.sub (ws' := [(h0, .inr (4, [.ref h0_held, .int t_size, .ref h0_roots, .ref h0_survey])), (h0_held, .inl (k_t_held, 24, .inr (.inr (.inr (.inr t_held))))), (h0_roots, .inr (1, [.ref h0_roots_least, .int u6])), (h0_survey, .inr (3, [.ref h0_roots, .ref h0_survey_strides, .ref h0_survey_halvesFound])), (h0_roots_least, .inl (k_t_roots_least, 10007, .inl f7)), (y0, .inr (0, [.int y0_p, .int y0_a, .int y0_b, .int y0_from, .int y0_kernelPoint, .int y0_kernelOrder, .int y0_points, .int y0_inner, .int y0_outer, .int y0_makersFound, .int y0_first, .int y0_second]))]) [0, 1, 3, 2, 4, 5] (by decide) rfl
      have hv : (r8, u6, f7) = rr := Option.some.inj h
      have hP9 := hP.sub (ws' := [(h0, .inr (4, [.ref h0_held, .int t_size, .ref h0_roots, .ref h0_survey])), (h0_held, .inl (k_t_held, 24, .inr (.inr (.inr (.inr t_held))))), (h0_roots, .inr (1, [.ref h0_roots_least, .int u6])), (h0_survey, .inr (3, [.ref h0_roots, .ref h0_survey_strides, .ref h0_survey_halvesFound])), (h0_roots_least, .inl (k_t_roots_least, 10007, .inl f7)), (y0, .inr (0, [.int y0_p, .int y0_a, .int y0_b, .int y0_from, .int y0_kernelPoint, .int y0_kernelOrder, .int y0_points, .int y0_inner, .int y0_outer, .int y0_makersFound, .int y0_first, .int y0_second]))]) [0, 1, 2, 3, 4, 5] rfl
      have hD9 := hD.sub (ws' := [(h0, .inr (4, [.ref h0_held, .int t_size, .ref h0_roots, .ref h0_survey])), (h0_held, .inl (k_t_held, 24, .inr (.inr (.inr (.inr t_held))))), (h0_roots, .inr (1, [.ref h0_roots_least, .int u6])), (h0_survey, .inr (3, [.ref h0_roots, .ref h0_survey_strides, .ref h0_survey_halvesFound])), (h0_roots_least, .inl (k_t_roots_least, 10007, .inl f7)), (y0, .inr (0, [.int y0_p, .int y0_a, .int y0_b, .int y0_from, .int y0_kernelPoint, .int y0_kernelOrder, .int y0_points, .int y0_inner, .int y0_outer, .int y0_makersFound, .int y0_first, .int y0_second]))]) [0, 1, 2, 3, 4, 5] (by decide) rfl
      have hK9 := hK.sub (tys' := [(k_t_held, .object "PointRings$Curve"), (k_t_roots_least, .int)]) [0, 1] rfl
      exact W.iret (v := r8) hx hb hr (fun t ht hW => ⟨⟨r8, (u6, f7), rfl, hv, by rw [ht]; exact hP9, va_K.moved hW.alike hK9, hD9⟩, hS.F ht⟩) hS.2.2 dX5_rank_39
    · replace h := (if_pos c4).symm.trans h
      refine lv_iconst (v := 0) hx hb dX5_rank_26 (by decide) ?_
      refine lv_goto (tgt := 39) hx hb dX5_rank_27 (by decide) ?_
      have hv : (0, t_roots_prime, t_roots_least) = rr := Option.some.inj h
      have hP9 := hP.sub (ws' := [(h0, .inr (4, [.ref h0_held, .int t_size, .ref h0_roots, .ref h0_survey])), (h0_held, .inl (k_t_held, 24, .inr (.inr (.inr (.inr t_held))))), (h0_roots, .inr (1, [.ref h0_roots_least, .int t_roots_prime])), (h0_survey, .inr (3, [.ref h0_roots, .ref h0_survey_strides, .ref h0_survey_halvesFound])), (h0_roots_least, .inl (k_t_roots_least, 10007, .inl t_roots_least)), (y0, .inr (0, [.int y0_p, .int y0_a, .int y0_b, .int y0_from, .int y0_kernelPoint, .int y0_kernelOrder, .int y0_points, .int y0_inner, .int y0_outer, .int y0_makersFound, .int y0_first, .int y0_second]))]) [0, 1, 2, 3, 4, 5] rfl
      have hD9 := hD.sub (ws' := [(h0, .inr (4, [.ref h0_held, .int t_size, .ref h0_roots, .ref h0_survey])), (h0_held, .inl (k_t_held, 24, .inr (.inr (.inr (.inr t_held))))), (h0_roots, .inr (1, [.ref h0_roots_least, .int t_roots_prime])), (h0_survey, .inr (3, [.ref h0_roots, .ref h0_survey_strides, .ref h0_survey_halvesFound])), (h0_roots_least, .inl (k_t_roots_least, 10007, .inl t_roots_least)), (y0, .inr (0, [.int y0_p, .int y0_a, .int y0_b, .int y0_from, .int y0_kernelPoint, .int y0_kernelOrder, .int y0_points, .int y0_inner, .int y0_outer, .int y0_makersFound, .int y0_first, .int y0_second]))]) [0, 1, 2, 3, 4, 5] (by decide) rfl
      have hK9 := hK.sub (tys' := [(k_t_held, .object "PointRings$Curve"), (k_t_roots_least, .int)]) [0, 1] rfl
      exact W.iret (v := 0) hx hb hr (fun t ht hW => ⟨⟨0, (t_roots_prime, t_roots_least), rfl, hv, by rw [ht]; exact hP9, va_K.moved hW.alike hK9, hD9⟩, hS.F ht⟩) hS.2.2 dX5_rank_39
  · replace h := (if_pos c3).symm.trans h
    refine lv_bipush (v := (-2)) hx hb dX5_rank_18 (by decide) ?_
    have hv : ((-2), t_roots_prime, t_roots_least) = rr := Option.some.inj h
    have hP9 := hP.sub (ws' := [(h0, .inr (4, [.ref h0_held, .int t_size, .ref h0_roots, .ref h0_survey])), (h0_held, .inl (k_t_held, 24, .inr (.inr (.inr (.inr t_held))))), (h0_roots, .inr (1, [.ref h0_roots_least, .int t_roots_prime])), (h0_survey, .inr (3, [.ref h0_roots, .ref h0_survey_strides, .ref h0_survey_halvesFound])), (h0_roots_least, .inl (k_t_roots_least, 10007, .inl t_roots_least)), (y0, .inr (0, [.int y0_p, .int y0_a, .int y0_b, .int y0_from, .int y0_kernelPoint, .int y0_kernelOrder, .int y0_points, .int y0_inner, .int y0_outer, .int y0_makersFound, .int y0_first, .int y0_second]))]) [0, 1, 2, 3, 4, 5] rfl
    have hD9 := hD.sub (ws' := [(h0, .inr (4, [.ref h0_held, .int t_size, .ref h0_roots, .ref h0_survey])), (h0_held, .inl (k_t_held, 24, .inr (.inr (.inr (.inr t_held))))), (h0_roots, .inr (1, [.ref h0_roots_least, .int t_roots_prime])), (h0_survey, .inr (3, [.ref h0_roots, .ref h0_survey_strides, .ref h0_survey_halvesFound])), (h0_roots_least, .inl (k_t_roots_least, 10007, .inl t_roots_least)), (y0, .inr (0, [.int y0_p, .int y0_a, .int y0_b, .int y0_from, .int y0_kernelPoint, .int y0_kernelOrder, .int y0_points, .int y0_inner, .int y0_outer, .int y0_makersFound, .int y0_first, .int y0_second]))]) [0, 1, 2, 3, 4, 5] (by decide) rfl
    have hK9 := hK.sub (tys' := [(k_t_held, .object "PointRings$Curve"), (k_t_roots_least, .int)]) [0, 1] rfl
    exact W.iret (v := (-2)) hx hb hr (fun t ht hW => ⟨⟨(-2), (t_roots_prime, t_roots_least), rfl, hv, by rw [ht]; exact hP9, va_K.moved hW.alike hK9, hD9⟩, hS.F ht⟩) hS.2.2 dX5_rank_20
