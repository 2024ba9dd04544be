def wsX6_has_n : List Cond := .code yX6_has cX6_has 2 (some .boolean) :: (([.fieldLink RX6 112 "PointRingsModel" "curves" "I"] : List Cond) ++ (wsX60 ++ ((va_wsS RX6 100 yX6_in wsX6_in))))
set_option maxRecDepth 20000 in
theorem gX6_has_n_X6_in : GoodIn wsX6_has_n (va_wsS RX6 100 yX6_in wsX6_in) := goodIn_sub (fun w h => List.mem_cons_of_mem _ (List.mem_append_right _ (List.mem_append_right _ (h)))) (by decide +kernel)
def mX6_has_n (N : Nat) (a0 : Int32) : Option (Int32) := some 0
abbrev rmX6_has_n : Room := { frames := 1, cells := 0, slots := 0, locals := 25 }
set_option maxHeartbeats 4000000 in
set_option maxRecDepth 100000 in
theorem ctX6_has_n (l : Launch) (N : Nat) (dC : Nat → ClassId) (dI : Nat → Nat → Nat) (h0 : Nat) (h0_inverses : Nat) (h0_roots : Nat) (h0_points : Nat) (h0_ahead : Nat) (h0_ps : Nat) (h0_as : Nat) (h0_bs : Nat) (h0_from : Nat) (h0_kernelPoint : Nat) (h0_kernelOrder : Nat) (h0_marked : Nat) (h0_seen : Nat) (t_p : Int32) (t_a : Int32) (t_b : Int32) (t_rooted : Int32) (t_pointMany : Int32) (t_curves : Int32) (a0 : Int32) (rr : Int32) (h : mX6_has_n N a0 = some rr) (hk0 : mX6_in N a0.toInt64 0 ((t_curves - 1).toInt64) = some 0) : Met l yX6_has wsX6_has_n rmX6_has_n (va_Pc [.ref h0, .int a0] (fun U => va_P (dC, dI) vwCl [(h0, .inr (5, [.int t_p, .int t_a, .int t_b, .ref h0_inverses, .ref h0_roots, .int t_rooted, .ref h0_points, .int t_pointMany, .ref h0_ahead, .int t_curves, .ref h0_ps, .ref h0_as, .ref h0_bs, .ref h0_from, .ref h0_kernelPoint, .ref h0_kernelOrder, .ref h0_marked, .ref h0_seen]))] U.heap ∧ va_K (dC, dI) vwCl [] U ∧ nw_all U)) (vp_Si (fun r => r = rr)) 0 0 (fun _ => False) := by
  refine Met.ofW (cc := cX6_has) (maxL := 2) (ret := (some .boolean)) (by decide) rfl ?_
  intro p e s m args below meth c s₁ B hml hv
  obtain ⟨rfl, hP, hK, hN⟩ := hv
  have hx := B.exec
  have hb := B.bytes
  have hr := B.returns
  have hts := atoms_spec (ws := wsX6_has_n) B.pre
  have hown : s.vm.findClass RX6 = some m.cls := findClass_of_methodNamed B.named
  have hlocks := B.notSynchronized
  have hl := lv_entry ([.ref h0, .int a0]) (n := 2) (Nat.le_of_ble_eq_true rfl)
  rw [lg_entry_eq]
  generalize (lg_sl ([.ref h0, .int a0]) ++ List.replicate (2 - (lg_sl ([.ref h0, .int a0])).length) Slot.unset).toArray = ls at hl ⊢
  have hl : lv_has ls 2 [(0, .ref h0), (1, .int a0)] := hl
  dsimp only [mX6_has_n] at h
  refine lv_iload_n hx hb dX6_has_0 rfl (lv_at hl 1 rfl) ?_
  refine lv_i2l hx hb dX6_has_1 rfl ?_
  refine lv_lconst (v := 0) hx hb dX6_has_2 (by decide) ?_
  refine lv_aload_n hx hb dX6_has_3 rfl (lv_at hl 0 rfl) ?_
  refine va_get (D := (dC, dI)) (ci := 5) (v := .int t_curves) (C := RX6) (T := TX6) (N := 18) hx hb hts (by decide +kernel) hown hK hP 0 rfl rfl 9 (by decide) (hts (.fieldLink RX6 112 "PointRingsModel" "curves" "I") (by decide +kernel)) (fun _ h9 => h9) rfl dX6_has_4 ?_
  refine lv_iconst (v := 1) hx hb dX6_has_7 (by decide) ?_
  refine lv_isub hx hb dX6_has_8 ?_
  refine lv_i2l hx hb dX6_has_9 rfl ?_
  refine vp_callSi (W.runS (As := [.long a0.toInt64, .long 0, .long ((t_curves - 1).toInt64)]) (rest := []) ⟨hx, hb, hml, hown, hts⟩ (ctX6_in l N  a0.toInt64 0 ((t_curves - 1).toInt64) 0 hk0) (va_cwS 3 hts gX6_has_n_X6_in rfl rfl rfl (by decide +kernel) ⟨Nat.le_of_ble_eq_true rfl, Nat.le_of_ble_eq_true rfl⟩) preEq rfl rfl hl.1 rfl (lv_room (Nat.le_of_ble_eq_true rfl)) dX6_has_10 ⟨Nat.le_of_ble_eq_true rfl, Nat.le_of_ble_eq_true rfl⟩) (fun q9 eq9 => ?_)
  subst q9
  refine lv_if_ne (tgt := 18) hx hb dX6_has_13 (by decide) (fun c2 => ?_) (fun c2 => ?_)
  · exact absurd (by decide) c2
  · refine lv_iconst (v := 0) hx hb dX6_has_16 (by decide) ?_
    have hv : 0 = rr := Option.some.inj h
    exact W.zret (v := 0) hx hb hr (by decide) (fun t ht hW => ⟨_, rfl, hv, ht⟩) (fun q hq => absurd hq List.not_mem_nil) dX6_has_17
def wsX6_told_n : List Cond := .code yX6_told cX6_told 5 (some .int) :: (([] : List Cond) ++ ((wsV RX6 132 RX6 yX6_has wsX6_has_n)))
set_option maxRecDepth 20000 in
theorem gX6_told_n_X6_has_n : GoodIn wsX6_told_n (wsV RX6 132 RX6 yX6_has wsX6_has_n) := goodIn_sub (fun w h => List.mem_cons_of_mem _ (List.mem_append_right _ (h))) (by decide +kernel)
def mX6_told_n (N : Nat) (a0 : Int32) (a1 : Int32) : Option (Int32) := some (-2)
abbrev rmX6_told_n : Room := { frames := 2, cells := 0, slots := 0, locals := 46 }
set_option maxHeartbeats 4000000 in
set_option maxRecDepth 100000 in
theorem ctX6_told_n (l : Launch) (N : Nat) (dC : Nat → ClassId) (dI : Nat → Nat → Nat) (h0 : Nat) (h0_inverses : Nat) (h0_roots : Nat) (h0_points : Nat) (h0_ahead : Nat) (h0_ps : Nat) (h0_as : Nat) (h0_bs : Nat) (h0_from : Nat) (h0_kernelPoint : Nat) (h0_kernelOrder : Nat) (h0_marked : Nat) (h0_seen : Nat) (t_p : Int32) (t_a : Int32) (t_b : Int32) (t_rooted : Int32) (t_pointMany : Int32) (t_curves : Int32) (a0 : Int32) (a1 : Int32) (rr : Int32) (h : mX6_told_n N a0 a1 = some rr) (hk0 : mX6_in N a0.toInt64 0 ((t_curves - 1).toInt64) = some 0) : Met l yX6_told wsX6_told_n rmX6_told_n (va_Pc [.ref h0, .int a0, .int a1] (fun U => va_P (dC, dI) vwCl [(h0, .inr (5, [.int t_p, .int t_a, .int t_b, .ref h0_inverses, .ref h0_roots, .int t_rooted, .ref h0_points, .int t_pointMany, .ref h0_ahead, .int t_curves, .ref h0_ps, .ref h0_as, .ref h0_bs, .ref h0_from, .ref h0_kernelPoint, .ref h0_kernelOrder, .ref h0_marked, .ref h0_seen]))] U.heap ∧ va_K (dC, dI) vwCl [] U ∧ nw_all U)) (vp_Si (fun r => r = rr)) 0 0 (fun _ => False) := by
  refine Met.ofW (cc := cX6_told) (maxL := 5) (ret := (some .int)) (by decide) rfl ?_
  intro p e s m args below meth c s₁ B hml hv
  obtain ⟨rfl, hP, hK, hN⟩ := hv
  have hx := B.exec
  have hb := B.bytes
  have hr := B.returns
  have hts := atoms_spec (ws := wsX6_told_n) B.pre
  have hown : s.vm.findClass RX6 = some m.cls := findClass_of_methodNamed B.named
  have hlocks := B.notSynchronized
  have hl := lv_entry ([.ref h0, .int a0, .int a1]) (n := 5) (Nat.le_of_ble_eq_true rfl)
  rw [lg_entry_eq]
  generalize (lg_sl ([.ref h0, .int a0, .int a1]) ++ List.replicate (5 - (lg_sl ([.ref h0, .int a0, .int a1])).length) Slot.unset).toArray = ls at hl ⊢
  have hl : lv_has ls 5 [(0, .ref h0), (1, .int a0), (2, .int a1)] := hl
  dsimp only [mX6_told_n] at h
  refine lv_aload_n hx hb dX6_told_0 rfl (lv_at hl 0 rfl) ?_
  refine lv_iload_n hx hb dX6_told_1 rfl (lv_at hl 1 rfl) ?_
  have hPc := hP.sub (ws' := [(h0, .inr (5, [.int t_p, .int t_a, .int t_b, .ref h0_inverses, .ref h0_roots, .int t_rooted, .ref h0_points, .int t_pointMany, .ref h0_ahead, .int t_curves, .ref h0_ps, .ref h0_as, .ref h0_bs, .ref h0_from, .ref h0_kernelPoint, .ref h0_kernelOrder, .ref h0_marked, .ref h0_seen]))]) [0] rfl
  have hKc := hK.sub (tys' := []) [] rfl
  refine vp_callSi (W.runV (As := [.int a0]) (rest := []) ⟨hx, hb, hml, hown, hts⟩ (ctX6_has_n l N dC dI  h0 h0_inverses h0_roots h0_points h0_ahead h0_ps h0_as h0_bs h0_from h0_kernelPoint h0_kernelOrder h0_marked h0_seen t_p t_a t_b t_rooted t_pointMany t_curves a0 0 rfl hk0) (cwV 1 hts gX6_told_n_X6_has_n rfl rfl rfl (by decide +kernel) ⟨Nat.le_of_ble_eq_true rfl, Nat.le_of_ble_eq_true rfl⟩) ⟨fun a U g mk q => by obtain ⟨q0, qP, qK, qN⟩ := q; exact ⟨q0, qP, va_K.moved (u := U) (U := U.calling g mk a) (Vm.Alike.refl U.vm) qK, nw_same (u := U) (U := U.calling g mk a) rfl qN⟩, va_recv hKc hPc (ci := 5) (q0 := 0) rfl rfl, fun U hU hW => ⟨rfl, by rw [hU]; exact hPc, va_K.moved hW.alike hKc, nw_warm hW hN⟩⟩ rfl rfl hl.1 rfl (lv_room (Nat.le_of_ble_eq_true rfl)) dX6_told_2 ⟨Nat.le_of_ble_eq_true rfl, Nat.le_of_ble_eq_true rfl⟩) (fun q9 eq9 => ?_)
  subst q9
  refine lv_if_ne (tgt := 11) hx hb dX6_told_5 (by decide) (fun c2 => ?_) (fun c2 => ?_)
  · exact absurd (by decide) c2
  · refine lv_bipush (v := (-2)) hx hb dX6_told_8 (by decide) ?_
    have hv : (-2) = rr := Option.some.inj h
    exact W.iret (v := (-2)) hx hb hr (fun t ht hW => ⟨_, rfl, hv, ht⟩) (fun q hq => absurd hq List.not_mem_nil) dX6_told_10
def wsX6_twist_n : List Cond := .code yX6_twist cX6_twist 2 (some .int) :: (([] : List Cond) ++ ((wsV RX6 132 RX6 yX6_has wsX6_has_n)))
set_option maxRecDepth 20000 in
theorem gX6_twist_n_X6_has_n : GoodIn wsX6_twist_n (wsV RX6 132 RX6 yX6_has wsX6_has_n) := goodIn_sub (fun w h => List.mem_cons_of_mem _ (List.mem_append_right _ (h))) (by decide +kernel)
def mX6_twist_n (N : Nat) (a0 : Int32) : Option (Int32) := some (-2)
abbrev rmX6_twist_n : Room := { frames := 2, cells := 0, slots := 0, locals := 46 }
set_option maxHeartbeats 4000000 in
set_option maxRecDepth 100000 in
theorem ctX6_twist_n (l : Launch) (N : Nat) (dC : Nat → ClassId) (dI : Nat → Nat → Nat) (h0 : Nat) (h0_inverses : Nat) (h0_roots : Nat) (h0_points : Nat) (h0_ahead : Nat) (h0_ps : Nat) (h0_as : Nat) (h0_bs : Nat) (h0_from : Nat) (h0_kernelPoint : Nat) (h0_kernelOrder : Nat) (h0_marked : Nat) (h0_seen : Nat) (t_p : Int32) (t_a : Int32) (t_b : Int32) (t_rooted : Int32) (t_pointMany : Int32) (t_curves : Int32) (a0 : Int32) (rr : Int32) (h : mX6_twist_n N a0 = some rr) (hk0 : mX6_in N a0.toInt64 0 ((t_curves - 1).toInt64) = some 0) : Met l yX6_twist wsX6_twist_n rmX6_twist_n (va_Pc [.ref h0, .int a0] (fun U => va_P (dC, dI) vwCl [(h0, .inr (5, [.int t_p, .int t_a, .int t_b, .ref h0_inverses, .ref h0_roots, .int t_rooted, .ref h0_points, .int t_pointMany, .ref h0_ahead, .int t_curves, .ref h0_ps, .ref h0_as, .ref h0_bs, .ref h0_from, .ref h0_kernelPoint, .ref h0_kernelOrder, .ref h0_marked, .ref h0_seen]))] U.heap ∧ va_K (dC, dI) vwCl [] U ∧ nw_all U)) (vp_Si (fun r => r = rr)) 0 0 (fun _ => False) := by
  refine Met.ofW (cc := cX6_twist) (maxL := 2) (ret := (some .int)) (by decide) rfl ?_
  intro p e s m args below meth c s₁ B hml hv
  obtain ⟨rfl, hP, hK, hN⟩ := hv
  have hx := B.exec
  have hb := B.bytes
  have hr := B.returns
  have hts := atoms_spec (ws := wsX6_twist_n) B.pre
  have hown : s.vm.findClass RX6 = some m.cls := findClass_of_methodNamed B.named
  have hlocks := B.notSynchronized
  have hl := lv_entry ([.ref h0, .int a0]) (n := 2) (Nat.le_of_ble_eq_true rfl)
  rw [lg_entry_eq]
  generalize (lg_sl ([.ref h0, .int a0]) ++ List.replicate (2 - (lg_sl ([.ref h0, .int a0])).length) Slot.unset).toArray = ls at hl ⊢
  have hl : lv_has ls 2 [(0, .ref h0), (1, .int a0)] := hl
  dsimp only [mX6_twist_n] at h
  refine lv_aload_n hx hb dX6_twist_0 rfl (lv_at hl 0 rfl) ?_
  refine lv_iload_n hx hb dX6_twist_1 rfl (lv_at hl 1 rfl) ?_
  have hPc := hP.sub (ws' := [(h0, .inr (5, [.int t_p, .int t_a, .int t_b, .ref h0_inverses, .ref h0_roots, .int t_rooted, .ref h0_points, .int t_pointMany, .ref h0_ahead, .int t_curves, .ref h0_ps, .ref h0_as, .ref h0_bs, .ref h0_from, .ref h0_kernelPoint, .ref h0_kernelOrder, .ref h0_marked, .ref h0_seen]))]) [0] rfl
  have hKc := hK.sub (tys' := []) [] rfl
  refine vp_callSi (W.runV (As := [.int a0]) (rest := []) ⟨hx, hb, hml, hown, hts⟩ (ctX6_has_n l N dC dI  h0 h0_inverses h0_roots h0_points h0_ahead h0_ps h0_as h0_bs h0_from h0_kernelPoint h0_kernelOrder h0_marked h0_seen t_p t_a t_b t_rooted t_pointMany t_curves a0 0 rfl hk0) (cwV 1 hts gX6_twist_n_X6_has_n rfl rfl rfl (by decide +kernel) ⟨Nat.le_of_ble_eq_true rfl, Nat.le_of_ble_eq_true rfl⟩) ⟨fun a U g mk q => by obtain ⟨q0, qP, qK, qN⟩ := q; exact ⟨q0, qP, va_K.moved (u := U) (U := U.calling g mk a) (Vm.Alike.refl U.vm) qK, nw_same (u := U) (U := U.calling g mk a) rfl qN⟩, va_recv hKc hPc (ci := 5) (q0 := 0) rfl rfl, fun U hU hW => ⟨rfl, by rw [hU]; exact hPc, va_K.moved hW.alike hKc, nw_warm hW hN⟩⟩ rfl rfl hl.1 rfl (lv_room (Nat.le_of_ble_eq_true rfl)) dX6_twist_2 ⟨Nat.le_of_ble_eq_true rfl, Nat.le_of_ble_eq_true rfl⟩) (fun q9 eq9 => ?_)
  subst q9
  refine lv_if_ne (tgt := 11) hx hb dX6_twist_5 (by decide) (fun c2 => ?_) (fun c2 => ?_)
  · exact absurd (by decide) c2
  · refine lv_bipush (v := (-2)) hx hb dX6_twist_8 (by decide) ?_
    have hv : (-2) = rr := Option.some.inj h
    exact W.iret (v := (-2)) hx hb hr (fun t ht hW => ⟨_, rfl, hv, ht⟩) (fun q hq => absurd hq List.not_mem_nil) dX6_twist_10
def wsX6_map_n : List Cond := .code yX6_map cX6_map 4 (some .int) :: (([] : List Cond) ++ ((wsV RX6 132 RX6 yX6_has wsX6_has_n)))
set_option maxRecDepth 20000 in
theorem gX6_map_n_X6_has_n : GoodIn wsX6_map_n (wsV RX6 132 RX6 yX6_has wsX6_has_n) := goodIn_sub (fun w h => List.mem_cons_of_mem _ (List.mem_append_right _ (h))) (by decide +kernel)
def mX6_map_n (N : Nat) (a0 : Int32) (a1 : Int32) : Option (Int32) := some (-2)
abbrev rmX6_map_n : Room := { frames := 2, cells := 0, slots := 0, locals := 46 }
set_option maxHeartbeats 4000000 in
set_option maxRecDepth 100000 in
theorem ctX6_map_n (l : Launch) (N : Nat) (dC : Nat → ClassId) (dI : Nat → Nat → Nat) (h0 : Nat) (h0_inverses : Nat) (h0_roots : Nat) (h0_points : Nat) (h0_ahead : Nat) (h0_ps : Nat) (h0_as : Nat) (h0_bs : Nat) (h0_from : Nat) (h0_kernelPoint : Nat) (h0_kernelOrder : Nat) (h0_marked : Nat) (h0_seen : Nat) (t_p : Int32) (t_a : Int32) (t_b : Int32) (t_rooted : Int32) (t_pointMany : Int32) (t_curves : Int32) (a0 : Int32) (a1 : Int32) (rr : Int32) (h : mX6_map_n N a0 a1 = some rr) (hk0 : mX6_in N a1.toInt64 0 ((t_curves - 1).toInt64) = some 0) : Met l yX6_map wsX6_map_n rmX6_map_n (va_Pc [.ref h0, .int a0, .int a1] (fun U => va_P (dC, dI) vwCl [(h0, .inr (5, [.int t_p, .int t_a, .int t_b, .ref h0_inverses, .ref h0_roots, .int t_rooted, .ref h0_points, .int t_pointMany, .ref h0_ahead, .int t_curves, .ref h0_ps, .ref h0_as, .ref h0_bs, .ref h0_from, .ref h0_kernelPoint, .ref h0_kernelOrder, .ref h0_marked, .ref h0_seen]))] U.heap ∧ va_K (dC, dI) vwCl [] U ∧ nw_all U)) (vp_Si (fun r => r = rr)) 0 0 (fun _ => False) := by
  refine Met.ofW (cc := cX6_map) (maxL := 4) (ret := (some .int)) (by decide) rfl ?_
  intro p e s m args below meth c s₁ B hml hv
  obtain ⟨rfl, hP, hK, hN⟩ := hv
  have hx := B.exec
  have hb := B.bytes
  have hr := B.returns
  have hts := atoms_spec (ws := wsX6_map_n) B.pre
  have hown : s.vm.findClass RX6 = some m.cls := findClass_of_methodNamed B.named
  have hlocks := B.notSynchronized
  have hl := lv_entry ([.ref h0, .int a0, .int a1]) (n := 4) (Nat.le_of_ble_eq_true rfl)
  rw [lg_entry_eq]
  generalize (lg_sl ([.ref h0, .int a0, .int a1]) ++ List.replicate (4 - (lg_sl ([.ref h0, .int a0, .int a1])).length) Slot.unset).toArray = ls at hl ⊢
  have hl : lv_has ls 4 [(0, .ref h0), (1, .int a0), (2, .int a1)] := hl
  dsimp only [mX6_map_n] at h
  refine lv_aload_n hx hb dX6_map_0 rfl (lv_at hl 0 rfl) ?_
  refine lv_iload_n hx hb dX6_map_1 rfl (lv_at hl 2 rfl) ?_
  have hPc := hP.sub (ws' := [(h0, .inr (5, [.int t_p, .int t_a, .int t_b, .ref h0_inverses, .ref h0_roots, .int t_rooted, .ref h0_points, .int t_pointMany, .ref h0_ahead, .int t_curves, .ref h0_ps, .ref h0_as, .ref h0_bs, .ref h0_from, .ref h0_kernelPoint, .ref h0_kernelOrder, .ref h0_marked, .ref h0_seen]))]) [0] rfl
  have hKc := hK.sub (tys' := []) [] rfl
  refine vp_callSi (W.runV (As := [.int a1]) (rest := []) ⟨hx, hb, hml, hown, hts⟩ (ctX6_has_n l N dC dI  h0 h0_inverses h0_roots h0_points h0_ahead h0_ps h0_as h0_bs h0_from h0_kernelPoint h0_kernelOrder h0_marked h0_seen t_p t_a t_b t_rooted t_pointMany t_curves a1 0 rfl hk0) (cwV 1 hts gX6_map_n_X6_has_n rfl rfl rfl (by decide +kernel) ⟨Nat.le_of_ble_eq_true rfl, Nat.le_of_ble_eq_true rfl⟩) ⟨fun a U g mk q => by obtain ⟨q0, qP, qK, qN⟩ := q; exact ⟨q0, qP, va_K.moved (u := U) (U := U.calling g mk a) (Vm.Alike.refl U.vm) qK, nw_same (u := U) (U := U.calling g mk a) rfl qN⟩, va_recv hKc hPc (ci := 5) (q0 := 0) rfl rfl, fun U hU hW => ⟨rfl, by rw [hU]; exact hPc, va_K.moved hW.alike hKc, nw_warm hW hN⟩⟩ rfl rfl hl.1 rfl (lv_room (Nat.le_of_ble_eq_true rfl)) dX6_map_2 ⟨Nat.le_of_ble_eq_true rfl, Nat.le_of_ble_eq_true rfl⟩) (fun q9 eq9 => ?_)
  subst q9
  refine lv_if_eq (tgt := 16) hx hb dX6_map_5 (by decide) (fun c2 => ?_) (fun c2 => ?_)
  · refine lv_bipush (v := (-2)) hx hb dX6_map_16 (by decide) ?_
    have hv : (-2) = rr := Option.some.inj h
    exact W.iret (v := (-2)) hx hb hr (fun t ht hW => ⟨_, rfl, hv, ht⟩) (fun q hq => absurd hq List.not_mem_nil) dX6_map_18
  · exact absurd (by decide) c2
def wsX6_mapped_n : List Cond := .code yX6_mapped cX6_mapped 4 (some .int) :: (([] : List Cond) ++ ((wsV RX6 132 RX6 yX6_has wsX6_has_n)))
set_option maxRecDepth 20000 in
theorem gX6_mapped_n_X6_has_n : GoodIn wsX6_mapped_n (wsV RX6 132 RX6 yX6_has wsX6_has_n) := goodIn_sub (fun w h => List.mem_cons_of_mem _ (List.mem_append_right _ (h))) (by decide +kernel)
def mX6_mapped_n (N : Nat) (a0 : Int32) (a1 : Int32) (a2 : Int32) : Option (Int32) := some (-2)
abbrev rmX6_mapped_n : Room := { frames := 2, cells := 0, slots := 0, locals := 46 }
set_option maxHeartbeats 4000000 in
set_option maxRecDepth 100000 in
theorem ctX6_mapped_n (l : Launch) (N : Nat) (dC : Nat → ClassId) (dI : Nat → Nat → Nat) (h0 : Nat) (h0_inverses : Nat) (h0_roots : Nat) (h0_points : Nat) (h0_ahead : Nat) (h0_ps : Nat) (h0_as : Nat) (h0_bs : Nat) (h0_from : Nat) (h0_kernelPoint : Nat) (h0_kernelOrder : Nat) (h0_marked : Nat) (h0_seen : Nat) (t_p : Int32) (t_a : Int32) (t_b : Int32) (t_rooted : Int32) (t_pointMany : Int32) (t_curves : Int32) (a0 : Int32) (a1 : Int32) (a2 : Int32) (rr : Int32) (h : mX6_mapped_n N a0 a1 a2 = some rr) (hk0 : mX6_in N a0.toInt64 0 ((t_curves - 1).toInt64) = some 0) : Met l yX6_mapped wsX6_mapped_n rmX6_mapped_n (va_Pc [.ref h0, .int a0, .int a1, .int a2] (fun U => va_P (dC, dI) vwCl [(h0, .inr (5, [.int t_p, .int t_a, .int t_b, .ref h0_inverses, .ref h0_roots, .int t_rooted, .ref h0_points, .int t_pointMany, .ref h0_ahead, .int t_curves, .ref h0_ps, .ref h0_as, .ref h0_bs, .ref h0_from, .ref h0_kernelPoint, .ref h0_kernelOrder, .ref h0_marked, .ref h0_seen]))] U.heap ∧ va_K (dC, dI) vwCl [] U ∧ nw_all U)) (vp_Si (fun r => r = rr)) 0 0 (fun _ => False) := by
  refine Met.ofW (cc := cX6_mapped) (maxL := 4) (ret := (some .int)) (by decide) rfl ?_
  intro p e s m args below meth c s₁ B hml hv
  obtain ⟨rfl, hP, hK, hN⟩ := hv
  have hx := B.exec
  have hb := B.bytes
  have hr := B.returns
  have hts := atoms_spec (ws := wsX6_mapped_n) B.pre
  have hown : s.vm.findClass RX6 = some m.cls := findClass_of_methodNamed B.named
  have hlocks := B.notSynchronized
  have hl := lv_entry ([.ref h0, .int a0, .int a1, .int a2]) (n := 4) (Nat.le_of_ble_eq_true rfl)
  rw [lg_entry_eq]
  generalize (lg_sl ([.ref h0, .int a0, .int a1, .int a2]) ++ List.replicate (4 - (lg_sl ([.ref h0, .int a0, .int a1, .int a2])).length) Slot.unset).toArray = ls at hl ⊢
  have hl : lv_has ls 4 [(0, .ref h0), (1, .int a0), (2, .int a1), (3, .int a2)] := hl
  dsimp only [mX6_mapped_n] at h
  refine lv_aload_n hx hb dX6_mapped_0 rfl (lv_at hl 0 rfl) ?_
  refine lv_iload_n hx hb dX6_mapped_1 rfl (lv_at hl 1 rfl) ?_
  have hPc := hP.sub (ws' := [(h0, .inr (5, [.int t_p, .int t_a, .int t_b, .ref h0_inverses, .ref h0_roots, .int t_rooted, .ref h0_points, .int t_pointMany, .ref h0_ahead, .int t_curves, .ref h0_ps, .ref h0_as, .ref h0_bs, .ref h0_from, .ref h0_kernelPoint, .ref h0_kernelOrder, .ref h0_marked, .ref h0_seen]))]) [0] rfl
  have hKc := hK.sub (tys' := []) [] rfl
  refine vp_callSi (W.runV (As := [.int a0]) (rest := []) ⟨hx, hb, hml, hown, hts⟩ (ctX6_has_n l N dC dI  h0 h0_inverses h0_roots h0_points h0_ahead h0_ps h0_as h0_bs h0_from h0_kernelPoint h0_kernelOrder h0_marked h0_seen t_p t_a t_b t_rooted t_pointMany t_curves a0 0 rfl hk0) (cwV 1 hts gX6_mapped_n_X6_has_n rfl rfl rfl (by decide +kernel) ⟨Nat.le_of_ble_eq_true rfl, Nat.le_of_ble_eq_true rfl⟩) ⟨fun a U g mk q => by obtain ⟨q0, qP, qK, qN⟩ := q; exact ⟨q0, qP, va_K.moved (u := U) (U := U.calling g mk a) (Vm.Alike.refl U.vm) qK, nw_same (u := U) (U := U.calling g mk a) rfl qN⟩, va_recv hKc hPc (ci := 5) (q0 := 0) rfl rfl, fun U hU hW => ⟨rfl, by rw [hU]; exact hPc, va_K.moved hW.alike hKc, nw_warm hW hN⟩⟩ rfl rfl hl.1 rfl (lv_room (Nat.le_of_ble_eq_true rfl)) dX6_mapped_2 ⟨Nat.le_of_ble_eq_true rfl, Nat.le_of_ble_eq_true rfl⟩) (fun q9 eq9 => ?_)
  subst q9
  refine lv_if_eq (tgt := 32) hx hb dX6_mapped_5 (by decide) (fun c2 => ?_) (fun c2 => ?_)
  · refine lv_bipush (v := (-2)) hx hb dX6_mapped_32 (by decide) ?_
    have hv : (-2) = rr := Option.some.inj h
    exact W.iret (v := (-2)) hx hb hr (fun t ht hW => ⟨_, rfl, hv, ht⟩) (fun q hq => absurd hq List.not_mem_nil) dX6_mapped_34
  · exact absurd (by decide) c2
def wsX6_root_n : List Cond := .code yX6_root cX6_root 3 (some .int) :: (([] : List Cond) ++ ((wsV RX6 132 RX6 yX6_has wsX6_has_n)))
set_option maxRecDepth 20000 in
theorem gX6_root_n_X6_has_n : GoodIn wsX6_root_n (wsV RX6 132 RX6 yX6_has wsX6_has_n) := goodIn_sub (fun w h => List.mem_cons_of_mem _ (List.mem_append_right _ (h))) (by decide +kernel)
def mX6_root_n (N : Nat) (a0 : Int32) (a1 : Int32) : Option (Int32) := some (-2)
abbrev rmX6_root_n : Room := { frames := 2, cells := 0, slots := 0, locals := 46 }
set_option maxHeartbeats 4000000 in
set_option maxRecDepth 100000 in
theorem ctX6_root_n (l : Launch) (N : Nat) (dC : Nat → ClassId) (dI : Nat → Nat → Nat) (h0 : Nat) (h0_inverses : Nat) (h0_roots : Nat) (h0_points : Nat) (h0_ahead : Nat) (h0_ps : Nat) (h0_as : Nat) (h0_bs : Nat) (h0_from : Nat) (h0_kernelPoint : Nat) (h0_kernelOrder : Nat) (h0_marked : Nat) (h0_seen : Nat) (t_p : Int32) (t_a : Int32) (t_b : Int32) (t_rooted : Int32) (t_pointMany : Int32) (t_curves : Int32) (a0 : Int32) (a1 : Int32) (rr : Int32) (h : mX6_root_n N a0 a1 = some rr) (hk0 : mX6_in N a0.toInt64 0 ((t_curves - 1).toInt64) = some 0) : Met l yX6_root wsX6_root_n rmX6_root_n (va_Pc [.ref h0, .int a0, .int a1] (fun U => va_P (dC, dI) vwCl [(h0, .inr (5, [.int t_p, .int t_a, .int t_b, .ref h0_inverses, .ref h0_roots, .int t_rooted, .ref h0_points, .int t_pointMany, .ref h0_ahead, .int t_curves, .ref h0_ps, .ref h0_as, .ref h0_bs, .ref h0_from, .ref h0_kernelPoint, .ref h0_kernelOrder, .ref h0_marked, .ref h0_seen]))] U.heap ∧ va_K (dC, dI) vwCl [] U ∧ nw_all U)) (vp_Si (fun r => r = rr)) 0 0 (fun _ => False) := by
  refine Met.ofW (cc := cX6_root) (maxL := 3) (ret := (some .int)) (by decide) rfl ?_
  intro p e s m args below meth c s₁ B hml hv
  obtain ⟨rfl, hP, hK, hN⟩ := hv
  have hx := B.exec
  have hb := B.bytes
  have hr := B.returns
  have hts := atoms_spec (ws := wsX6_root_n) B.pre
  have hown : s.vm.findClass RX6 = some m.cls := findClass_of_methodNamed B.named
  have hlocks := B.notSynchronized
  have hl := lv_entry ([.ref h0, .int a0, .int a1]) (n := 3) (Nat.le_of_ble_eq_true rfl)
  rw [lg_entry_eq]
  generalize (lg_sl ([.ref h0, .int a0, .int a1]) ++ List.replicate (3 - (lg_sl ([.ref h0, .int a0, .int a1])).length) Slot.unset).toArray = ls at hl ⊢
  have hl : lv_has ls 3 [(0, .ref h0), (1, .int a0), (2, .int a1)] := hl
  dsimp only [mX6_root_n] at h
  refine lv_aload_n hx hb dX6_root_0 rfl (lv_at hl 0 rfl) ?_
  refine lv_iload_n hx hb dX6_root_1 rfl (lv_at hl 1 rfl) ?_
  have hPc := hP.sub (ws' := [(h0, .inr (5, [.int t_p, .int t_a, .int t_b, .ref h0_inverses, .ref h0_roots, .int t_rooted, .ref h0_points, .int t_pointMany, .ref h0_ahead, .int t_curves, .ref h0_ps, .ref h0_as, .ref h0_bs, .ref h0_from, .ref h0_kernelPoint, .ref h0_kernelOrder, .ref h0_marked, .ref h0_seen]))]) [0] rfl
  have hKc := hK.sub (tys' := []) [] rfl
  refine vp_callSi (W.runV (As := [.int a0]) (rest := []) ⟨hx, hb, hml, hown, hts⟩ (ctX6_has_n l N dC dI  h0 h0_inverses h0_roots h0_points h0_ahead h0_ps h0_as h0_bs h0_from h0_kernelPoint h0_kernelOrder h0_marked h0_seen t_p t_a t_b t_rooted t_pointMany t_curves a0 0 rfl hk0) (cwV 1 hts gX6_root_n_X6_has_n rfl rfl rfl (by decide +kernel) ⟨Nat.le_of_ble_eq_true rfl, Nat.le_of_ble_eq_true rfl⟩) ⟨fun a U g mk q => by obtain ⟨q0, qP, qK, qN⟩ := q; exact ⟨q0, qP, va_K.moved (u := U) (U := U.calling g mk a) (Vm.Alike.refl U.vm) qK, nw_same (u := U) (U := U.calling g mk a) rfl qN⟩, va_recv hKc hPc (ci := 5) (q0 := 0) rfl rfl, fun U hU hW => ⟨rfl, by rw [hU]; exact hPc, va_K.moved hW.alike hKc, nw_warm hW hN⟩⟩ rfl rfl hl.1 rfl (lv_room (Nat.le_of_ble_eq_true rfl)) dX6_root_2 ⟨Nat.le_of_ble_eq_true rfl, Nat.le_of_ble_eq_true rfl⟩) (fun q9 eq9 => ?_)
  subst q9
  refine lv_if_eq (tgt := 22) hx hb dX6_root_5 (by decide) (fun c2 => ?_) (fun c2 => ?_)
  · refine lv_bipush (v := (-2)) hx hb dX6_root_22 (by decide) ?_
    have hv : (-2) = rr := Option.some.inj h
    exact W.iret (v := (-2)) hx hb hr (fun t ht hW => ⟨_, rfl, hv, ht⟩) (fun q hq => absurd hq List.not_mem_nil) dX6_root_24
  · exact absurd (by decide) c2
def wsX6_inverse_n : List Cond := .code yX6_inverse cX6_inverse 3 (some .int) :: (([] : List Cond) ++ ((wsV RX6 132 RX6 yX6_has wsX6_has_n)))
set_option maxRecDepth 20000 in
theorem gX6_inverse_n_X6_has_n : GoodIn wsX6_inverse_n (wsV RX6 132 RX6 yX6_has wsX6_has_n) := goodIn_sub (fun w h => List.mem_cons_of_mem _ (List.mem_append_right _ (h))) (by decide +kernel)
def mX6_inverse_n (N : Nat) (a0 : Int32) (a1 : Int32) : Option (Int32) := some (-2)
abbrev rmX6_inverse_n : Room := { frames := 2, cells := 0, slots := 0, locals := 46 }
set_option maxHeartbeats 4000000 in
set_option maxRecDepth 100000 in
theorem ctX6_inverse_n (l : Launch) (N : Nat) (dC : Nat → ClassId) (dI : Nat → Nat → Nat) (h0 : Nat) (h0_inverses : Nat) (h0_roots : Nat) (h0_points : Nat) (h0_ahead : Nat) (h0_ps : Nat) (h0_as : Nat) (h0_bs : Nat) (h0_from : Nat) (h0_kernelPoint : Nat) (h0_kernelOrder : Nat) (h0_marked : Nat) (h0_seen : Nat) (t_p : Int32) (t_a : Int32) (t_b : Int32) (t_rooted : Int32) (t_pointMany : Int32) (t_curves : Int32) (a0 : Int32) (a1 : Int32) (rr : Int32) (h : mX6_inverse_n N a0 a1 = some rr) (hk0 : mX6_in N a0.toInt64 0 ((t_curves - 1).toInt64) = some 0) : Met l yX6_inverse wsX6_inverse_n rmX6_inverse_n (va_Pc [.ref h0, .int a0, .int a1] (fun U => va_P (dC, dI) vwCl [(h0, .inr (5, [.int t_p, .int t_a, .int t_b, .ref h0_inverses, .ref h0_roots, .int t_rooted, .ref h0_points, .int t_pointMany, .ref h0_ahead, .int t_curves, .ref h0_ps, .ref h0_as, .ref h0_bs, .ref h0_from, .ref h0_kernelPoint, .ref h0_kernelOrder, .ref h0_marked, .ref h0_seen]))] U.heap ∧ va_K (dC, dI) vwCl [] U ∧ nw_all U)) (vp_Si (fun r => r = rr)) 0 0 (fun _ => False) := by
  refine Met.ofW (cc := cX6_inverse) (maxL := 3) (ret := (some .int)) (by decide) rfl ?_
  intro p e s m args below meth c s₁ B hml hv
  obtain ⟨rfl, hP, hK, hN⟩ := hv
  have hx := B.exec
  have hb := B.bytes
  have hr := B.returns
  have hts := atoms_spec (ws := wsX6_inverse_n) B.pre
  have hown : s.vm.findClass RX6 = some m.cls := findClass_of_methodNamed B.named
  have hlocks := B.notSynchronized
  have hl := lv_entry ([.ref h0, .int a0, .int a1]) (n := 3) (Nat.le_of_ble_eq_true rfl)
  rw [lg_entry_eq]
  generalize (lg_sl ([.ref h0, .int a0, .int a1]) ++ List.replicate (3 - (lg_sl ([.ref h0, .int a0, .int a1])).length) Slot.unset).toArray = ls at hl ⊢
  have hl : lv_has ls 3 [(0, .ref h0), (1, .int a0), (2, .int a1)] := hl
  dsimp only [mX6_inverse_n] at h
  refine lv_aload_n hx hb dX6_inverse_0 rfl (lv_at hl 0 rfl) ?_
  refine lv_iload_n hx hb dX6_inverse_1 rfl (lv_at hl 1 rfl) ?_
  have hPc := hP.sub (ws' := [(h0, .inr (5, [.int t_p, .int t_a, .int t_b, .ref h0_inverses, .ref h0_roots, .int t_rooted, .ref h0_points, .int t_pointMany, .ref h0_ahead, .int t_curves, .ref h0_ps, .ref h0_as, .ref h0_bs, .ref h0_from, .ref h0_kernelPoint, .ref h0_kernelOrder, .ref h0_marked, .ref h0_seen]))]) [0] rfl
  have hKc := hK.sub (tys' := []) [] rfl
  refine vp_callSi (W.runV (As := [.int a0]) (rest := []) ⟨hx, hb, hml, hown, hts⟩ (ctX6_has_n l N dC dI  h0 h0_inverses h0_roots h0_points h0_ahead h0_ps h0_as h0_bs h0_from h0_kernelPoint h0_kernelOrder h0_marked h0_seen t_p t_a t_b t_rooted t_pointMany t_curves a0 0 rfl hk0) (cwV 1 hts gX6_inverse_n_X6_has_n rfl rfl rfl (by decide +kernel) ⟨Nat.le_of_ble_eq_true rfl, Nat.le_of_ble_eq_true rfl⟩) ⟨fun a U g mk q => by obtain ⟨q0, qP, qK, qN⟩ := q; exact ⟨q0, qP, va_K.moved (u := U) (U := U.calling g mk a) (Vm.Alike.refl U.vm) qK, nw_same (u := U) (U := U.calling g mk a) rfl qN⟩, va_recv hKc hPc (ci := 5) (q0 := 0) rfl rfl, fun U hU hW => ⟨rfl, by rw [hU]; exact hPc, va_K.moved hW.alike hKc, nw_warm hW hN⟩⟩ rfl rfl hl.1 rfl (lv_room (Nat.le_of_ble_eq_true rfl)) dX6_inverse_2 ⟨Nat.le_of_ble_eq_true rfl, Nat.le_of_ble_eq_true rfl⟩) (fun q9 eq9 => ?_)
  subst q9
  refine lv_if_ne (tgt := 11) hx hb dX6_inverse_5 (by decide) (fun c2 => ?_) (fun c2 => ?_)
  · exact absurd (by decide) c2
  · refine lv_bipush (v := (-2)) hx hb dX6_inverse_8 (by decide) ?_
    have hv : (-2) = rr := Option.some.inj h
    exact W.iret (v := (-2)) hx hb hr (fun t ht hW => ⟨_, rfl, hv, ht⟩) (fun q hq => absurd hq List.not_mem_nil) dX6_inverse_10
def wsX6_power_n : List Cond := .code yX6_power cX6_power 5 (some .int) :: (([] : List Cond) ++ ((wsV RX6 132 RX6 yX6_has wsX6_has_n)))
set_option maxRecDepth 20000 in
theorem gX6_power_n_X6_has_n : GoodIn wsX6_power_n (wsV RX6 132 RX6 yX6_has wsX6_has_n) := goodIn_sub (fun w h => List.mem_cons_of_mem _ (List.mem_append_right _ (h))) (by decide +kernel)
def mX6_power_n (N : Nat) (a0 : Int32) (a1 : Int32) (a2 : Int64) : Option (Int32) := some (-2)
abbrev rmX6_power_n : Room := { frames := 2, cells := 0, slots := 0, locals := 46 }
set_option maxHeartbeats 4000000 in
set_option maxRecDepth 100000 in
theorem ctX6_power_n (l : Launch) (N : Nat) (dC : Nat → ClassId) (dI : Nat → Nat → Nat) (h0 : Nat) (h0_inverses : Nat) (h0_roots : Nat) (h0_points : Nat) (h0_ahead : Nat) (h0_ps : Nat) (h0_as : Nat) (h0_bs : Nat) (h0_from : Nat) (h0_kernelPoint : Nat) (h0_kernelOrder : Nat) (h0_marked : Nat) (h0_seen : Nat) (t_p : Int32) (t_a : Int32) (t_b : Int32) (t_rooted : Int32) (t_pointMany : Int32) (t_curves : Int32) (a0 : Int32) (a1 : Int32) (a2 : Int64) (rr : Int32) (h : mX6_power_n N a0 a1 a2 = some rr) (hk0 : mX6_in N a0.toInt64 0 ((t_curves - 1).toInt64) = some 0) : Met l yX6_power wsX6_power_n rmX6_power_n (va_Pc [.ref h0, .int a0, .int a1, .long a2] (fun U => va_P (dC, dI) vwCl [(h0, .inr (5, [.int t_p, .int t_a, .int t_b, .ref h0_inverses, .ref h0_roots, .int t_rooted, .ref h0_points, .int t_pointMany, .ref h0_ahead, .int t_curves, .ref h0_ps, .ref h0_as, .ref h0_bs, .ref h0_from, .ref h0_kernelPoint, .ref h0_kernelOrder, .ref h0_marked, .ref h0_seen]))] U.heap ∧ va_K (dC, dI) vwCl [] U ∧ nw_all U)) (vp_Si (fun r => r = rr)) 0 0 (fun _ => False) := by
  refine Met.ofW (cc := cX6_power) (maxL := 5) (ret := (some .int)) (by decide) rfl ?_
  intro p e s m args below meth c s₁ B hml hv
  obtain ⟨rfl, hP, hK, hN⟩ := hv
  have hx := B.exec
  have hb := B.bytes
  have hr := B.returns
  have hts := atoms_spec (ws := wsX6_power_n) B.pre
  have hown : s.vm.findClass RX6 = some m.cls := findClass_of_methodNamed B.named
  have hlocks := B.notSynchronized
  have hl := lv_entry ([.ref h0, .int a0, .int a1, .long a2]) (n := 5) (Nat.le_of_ble_eq_true rfl)
  rw [lg_entry_eq]
  generalize (lg_sl ([.ref h0, .int a0, .int a1, .long a2]) ++ List.replicate (5 - (lg_sl ([.ref h0, .int a0, .int a1, .long a2])).length) Slot.unset).toArray = ls at hl ⊢
  have hl : lv_has ls 5 [(0, .ref h0), (1, .int a0), (2, .int a1), (3, .long a2)] := hl
  dsimp only [mX6_power_n] at h
  refine lv_aload_n hx hb dX6_power_0 rfl (lv_at hl 0 rfl) ?_
  refine lv_iload_n hx hb dX6_power_1 rfl (lv_at hl 1 rfl) ?_
  have hPc := hP.sub (ws' := [(h0, .inr (5, [.int t_p, .int t_a, .int t_b, .ref h0_inverses, .ref h0_roots, .int t_rooted, .ref h0_points, .int t_pointMany, .ref h0_ahead, .int t_curves, .ref h0_ps, .ref h0_as, .ref h0_bs, .ref h0_from, .ref h0_kernelPoint, .ref h0_kernelOrder, .ref h0_marked, .ref h0_seen]))]) [0] rfl
  have hKc := hK.sub (tys' := []) [] rfl
  refine vp_callSi (W.runV (As := [.int a0]) (rest := []) ⟨hx, hb, hml, hown, hts⟩ (ctX6_has_n l N dC dI  h0 h0_inverses h0_roots h0_points h0_ahead h0_ps h0_as h0_bs h0_from h0_kernelPoint h0_kernelOrder h0_marked h0_seen t_p t_a t_b t_rooted t_pointMany t_curves a0 0 rfl hk0) (cwV 1 hts gX6_power_n_X6_has_n rfl rfl rfl (by decide +kernel) ⟨Nat.le_of_ble_eq_true rfl, Nat.le_of_ble_eq_true rfl⟩) ⟨fun a U g mk q => by obtain ⟨q0, qP, qK, qN⟩ := q; exact ⟨q0, qP, va_K.moved (u := U) (U := U.calling g mk a) (Vm.Alike.refl U.vm) qK, nw_same (u := U) (U := U.calling g mk a) rfl qN⟩, va_recv hKc hPc (ci := 5) (q0 := 0) rfl rfl, fun U hU hW => ⟨rfl, by rw [hU]; exact hPc, va_K.moved hW.alike hKc, nw_warm hW hN⟩⟩ rfl rfl hl.1 rfl (lv_room (Nat.le_of_ble_eq_true rfl)) dX6_power_2 ⟨Nat.le_of_ble_eq_true rfl, Nat.le_of_ble_eq_true rfl⟩) (fun q9 eq9 => ?_)
  subst q9
  refine lv_if_eq (tgt := 28) hx hb dX6_power_5 (by decide) (fun c2 => ?_) (fun c2 => ?_)
  · refine lv_bipush (v := (-2)) hx hb dX6_power_28 (by decide) ?_
    have hv : (-2) = rr := Option.some.inj h
    exact W.iret (v := (-2)) hx hb hr (fun t ht hW => ⟨_, rfl, hv, ht⟩) (fun q hq => absurd hq List.not_mem_nil) dX6_power_30
  · exact absurd (by decide) c2
def wsX6_generator_n : List Cond := .code yX6_generator cX6_generator 5 (some .int) :: (([] : List Cond) ++ ((wsV RX6 132 RX6 yX6_has wsX6_has_n)))
set_option maxRecDepth 20000 in
theorem gX6_generator_n_X6_has_n : GoodIn wsX6_generator_n (wsV RX6 132 RX6 yX6_has wsX6_has_n) := goodIn_sub (fun w h => List.mem_cons_of_mem _ (List.mem_append_right _ (h))) (by decide +kernel)
def mX6_generator_n (N : Nat) (a0 : Int32) : Option (Int32) := some (-2)
abbrev rmX6_generator_n : Room := { frames := 2, cells := 0, slots := 0, locals := 46 }
set_option maxHeartbeats 4000000 in
set_option maxRecDepth 100000 in
theorem ctX6_generator_n (l : Launch) (N : Nat) (dC : Nat → ClassId) (dI : Nat → Nat → Nat) (h0 : Nat) (h0_inverses : Nat) (h0_roots : Nat) (h0_points : Nat) (h0_ahead : Nat) (h0_ps : Nat) (h0_as : Nat) (h0_bs : Nat) (h0_from : Nat) (h0_kernelPoint : Nat) (h0_kernelOrder : Nat) (h0_marked : Nat) (h0_seen : Nat) (t_p : Int32) (t_a : Int32) (t_b : Int32) (t_rooted : Int32) (t_pointMany : Int32) (t_curves : Int32) (a0 : Int32) (rr : Int32) (h : mX6_generator_n N a0 = some rr) (hk0 : mX6_in N a0.toInt64 0 ((t_curves - 1).toInt64) = some 0) : Met l yX6_generator wsX6_generator_n rmX6_generator_n (va_Pc [.ref h0, .int a0] (fun U => va_P (dC, dI) vwCl [(h0, .inr (5, [.int t_p, .int t_a, .int t_b, .ref h0_inverses, .ref h0_roots, .int t_rooted, .ref h0_points, .int t_pointMany, .ref h0_ahead, .int t_curves, .ref h0_ps, .ref h0_as, .ref h0_bs, .ref h0_from, .ref h0_kernelPoint, .ref h0_kernelOrder, .ref h0_marked, .ref h0_seen]))] U.heap ∧ va_K (dC, dI) vwCl [] U ∧ nw_all U)) (vp_Si (fun r => r = rr)) 0 0 (fun _ => False) := by
  refine Met.ofW (cc := cX6_generator) (maxL := 5) (ret := (some .int)) (by decide) rfl ?_
  intro p e s m args below meth c s₁ B hml hv
  obtain ⟨rfl, hP, hK, hN⟩ := hv
  have hx := B.exec
  have hb := B.bytes
  have hr := B.returns
  have hts := atoms_spec (ws := wsX6_generator_n) B.pre
  have hown : s.vm.findClass RX6 = some m.cls := findClass_of_methodNamed B.named
  have hlocks := B.notSynchronized
  have hl := lv_entry ([.ref h0, .int a0]) (n := 5) (Nat.le_of_ble_eq_true rfl)
  rw [lg_entry_eq]
  generalize (lg_sl ([.ref h0, .int a0]) ++ List.replicate (5 - (lg_sl ([.ref h0, .int a0])).length) Slot.unset).toArray = ls at hl ⊢
  have hl : lv_has ls 5 [(0, .ref h0), (1, .int a0)] := hl
  dsimp only [mX6_generator_n] at h
  refine lv_aload_n hx hb dX6_generator_0 rfl (lv_at hl 0 rfl) ?_
  refine lv_iload_n hx hb dX6_generator_1 rfl (lv_at hl 1 rfl) ?_
  have hPc := hP.sub (ws' := [(h0, .inr (5, [.int t_p, .int t_a, .int t_b, .ref h0_inverses, .ref h0_roots, .int t_rooted, .ref h0_points, .int t_pointMany, .ref h0_ahead, .int t_curves, .ref h0_ps, .ref h0_as, .ref h0_bs, .ref h0_from, .ref h0_kernelPoint, .ref h0_kernelOrder, .ref h0_marked, .ref h0_seen]))]) [0] rfl
  have hKc := hK.sub (tys' := []) [] rfl
  refine vp_callSi (W.runV (As := [.int a0]) (rest := []) ⟨hx, hb, hml, hown, hts⟩ (ctX6_has_n l N dC dI  h0 h0_inverses h0_roots h0_points h0_ahead h0_ps h0_as h0_bs h0_from h0_kernelPoint h0_kernelOrder h0_marked h0_seen t_p t_a t_b t_rooted t_pointMany t_curves a0 0 rfl hk0) (cwV 1 hts gX6_generator_n_X6_has_n rfl rfl rfl (by decide +kernel) ⟨Nat.le_of_ble_eq_true rfl, Nat.le_of_ble_eq_true rfl⟩) ⟨fun a U g mk q => by obtain ⟨q0, qP, qK, qN⟩ := q; exact ⟨q0, qP, va_K.moved (u := U) (U := U.calling g mk a) (Vm.Alike.refl U.vm) qK, nw_same (u := U) (U := U.calling g mk a) rfl qN⟩, va_recv hKc hPc (ci := 5) (q0 := 0) rfl rfl, fun U hU hW => ⟨rfl, by rw [hU]; exact hPc, va_K.moved hW.alike hKc, nw_warm hW hN⟩⟩ rfl rfl hl.1 rfl (lv_room (Nat.le_of_ble_eq_true rfl)) dX6_generator_2 ⟨Nat.le_of_ble_eq_true rfl, Nat.le_of_ble_eq_true rfl⟩) (fun q9 eq9 => ?_)
  subst q9
  refine lv_if_ne (tgt := 11) hx hb dX6_generator_5 (by decide) (fun c2 => ?_) (fun c2 => ?_)
  · exact absurd (by decide) c2
  · refine lv_bipush (v := (-2)) hx hb dX6_generator_8 (by decide) ?_
    have hv : (-2) = rr := Option.some.inj h
    exact W.iret (v := (-2)) hx hb hr (fun t ht hW => ⟨_, rfl, hv, ht⟩) (fun q hq => absurd hq List.not_mem_nil) dX6_generator_10
def wsX6_point_n : List Cond := .code yX6_point cX6_point 4 (some .int) :: (([] : List Cond) ++ ((wsV RX6 132 RX6 yX6_has wsX6_has_n)))
set_option maxRecDepth 20000 in
theorem gX6_point_n_X6_has_n : GoodIn wsX6_point_n (wsV RX6 132 RX6 yX6_has wsX6_has_n) := goodIn_sub (fun w h => List.mem_cons_of_mem _ (List.mem_append_right _ (h))) (by decide +kernel)
def mX6_point_n (N : Nat) (a0 : Int32) (a1 : Int32) (a2 : Int32) : Option (Int32) := some (-2)
abbrev rmX6_point_n : Room := { frames := 2, cells := 0, slots := 0, locals := 46 }
set_option maxHeartbeats 4000000 in
set_option maxRecDepth 100000 in
theorem ctX6_point_n (l : Launch) (N : Nat) (dC : Nat → ClassId) (dI : Nat → Nat → Nat) (h0 : Nat) (h0_inverses : Nat) (h0_roots : Nat) (h0_points : Nat) (h0_ahead : Nat) (h0_ps : Nat) (h0_as : Nat) (h0_bs : Nat) (h0_from : Nat) (h0_kernelPoint : Nat) (h0_kernelOrder : Nat) (h0_marked : Nat) (h0_seen : Nat) (t_p : Int32) (t_a : Int32) (t_b : Int32) (t_rooted : Int32) (t_pointMany : Int32) (t_curves : Int32) (a0 : Int32) (a1 : Int32) (a2 : Int32) (rr : Int32) (h : mX6_point_n N a0 a1 a2 = some rr) (hk0 : mX6_in N a0.toInt64 0 ((t_curves - 1).toInt64) = some 0) : Met l yX6_point wsX6_point_n rmX6_point_n (va_Pc [.ref h0, .int a0, .int a1, .int a2] (fun U => va_P (dC, dI) vwCl [(h0, .inr (5, [.int t_p, .int t_a, .int t_b, .ref h0_inverses, .ref h0_roots, .int t_rooted, .ref h0_points, .int t_pointMany, .ref h0_ahead, .int t_curves, .ref h0_ps, .ref h0_as, .ref h0_bs, .ref h0_from, .ref h0_kernelPoint, .ref h0_kernelOrder, .ref h0_marked, .ref h0_seen]))] U.heap ∧ va_K (dC, dI) vwCl [] U ∧ nw_all U)) (vp_Si (fun r => r = rr)) 0 0 (fun _ => False) := by
  refine Met.ofW (cc := cX6_point) (maxL := 4) (ret := (some .int)) (by decide) rfl ?_
  intro p e s m args below meth c s₁ B hml hv
  obtain ⟨rfl, hP, hK, hN⟩ := hv
  have hx := B.exec
  have hb := B.bytes
  have hr := B.returns
  have hts := atoms_spec (ws := wsX6_point_n) B.pre
  have hown : s.vm.findClass RX6 = some m.cls := findClass_of_methodNamed B.named
  have hlocks := B.notSynchronized
  have hl := lv_entry ([.ref h0, .int a0, .int a1, .int a2]) (n := 4) (Nat.le_of_ble_eq_true rfl)
  rw [lg_entry_eq]
  generalize (lg_sl ([.ref h0, .int a0, .int a1, .int a2]) ++ List.replicate (4 - (lg_sl ([.ref h0, .int a0, .int a1, .int a2])).length) Slot.unset).toArray = ls at hl ⊢
  have hl : lv_has ls 4 [(0, .ref h0), (1, .int a0), (2, .int a1), (3, .int a2)] := hl
  dsimp only [mX6_point_n] at h
  refine lv_aload_n hx hb dX6_point_0 rfl (lv_at hl 0 rfl) ?_
  refine lv_iload_n hx hb dX6_point_1 rfl (lv_at hl 1 rfl) ?_
  have hPc := hP.sub (ws' := [(h0, .inr (5, [.int t_p, .int t_a, .int t_b, .ref h0_inverses, .ref h0_roots, .int t_rooted, .ref h0_points, .int t_pointMany, .ref h0_ahead, .int t_curves, .ref h0_ps, .ref h0_as, .ref h0_bs, .ref h0_from, .ref h0_kernelPoint, .ref h0_kernelOrder, .ref h0_marked, .ref h0_seen]))]) [0] rfl
  have hKc := hK.sub (tys' := []) [] rfl
  refine vp_callSi (W.runV (As := [.int a0]) (rest := []) ⟨hx, hb, hml, hown, hts⟩ (ctX6_has_n l N dC dI  h0 h0_inverses h0_roots h0_points h0_ahead h0_ps h0_as h0_bs h0_from h0_kernelPoint h0_kernelOrder h0_marked h0_seen t_p t_a t_b t_rooted t_pointMany t_curves a0 0 rfl hk0) (cwV 1 hts gX6_point_n_X6_has_n rfl rfl rfl (by decide +kernel) ⟨Nat.le_of_ble_eq_true rfl, Nat.le_of_ble_eq_true rfl⟩) ⟨fun a U g mk q => by obtain ⟨q0, qP, qK, qN⟩ := q; exact ⟨q0, qP, va_K.moved (u := U) (U := U.calling g mk a) (Vm.Alike.refl U.vm) qK, nw_same (u := U) (U := U.calling g mk a) rfl qN⟩, va_recv hKc hPc (ci := 5) (q0 := 0) rfl rfl, fun U hU hW => ⟨rfl, by rw [hU]; exact hPc, va_K.moved hW.alike hKc, nw_warm hW hN⟩⟩ rfl rfl hl.1 rfl (lv_room (Nat.le_of_ble_eq_true rfl)) dX6_point_2 ⟨Nat.le_of_ble_eq_true rfl, Nat.le_of_ble_eq_true rfl⟩) (fun q9 eq9 => ?_)
  subst q9
  refine lv_if_eq (tgt := 40) hx hb dX6_point_5 (by decide) (fun c2 => ?_) (fun c2 => ?_)
  · refine lv_bipush (v := (-2)) hx hb dX6_point_40 (by decide) ?_
    have hv : (-2) = rr := Option.some.inj h
    exact W.iret (v := (-2)) hx hb hr (fun t ht hW => ⟨_, rfl, hv, ht⟩) (fun q hq => absurd hq List.not_mem_nil) dX6_point_42
  · exact absurd (by decide) c2
def wsX6_lift_n : List Cond := .code yX6_lift cX6_lift 6 (some .int) :: (([] : List Cond) ++ ((wsV RX6 132 RX6 yX6_has wsX6_has_n)))
set_option maxRecDepth 20000 in
theorem gX6_lift_n_X6_has_n : GoodIn wsX6_lift_n (wsV RX6 132 RX6 yX6_has wsX6_has_n) := goodIn_sub (fun w h => List.mem_cons_of_mem _ (List.mem_append_right _ (h))) (by decide +kernel)
def mX6_lift_n (N : Nat) (a0 : Int32) (a1 : Int32) (a2 : Int32) : Option (Int32) := some (-2)
abbrev rmX6_lift_n : Room := { frames := 2, cells := 0, slots := 0, locals := 46 }
set_option maxHeartbeats 4000000 in
set_option maxRecDepth 100000 in
theorem ctX6_lift_n (l : Launch) (N : Nat) (dC : Nat → ClassId) (dI : Nat → Nat → Nat) (h0 : Nat) (h0_inverses : Nat) (h0_roots : Nat) (h0_points : Nat) (h0_ahead : Nat) (h0_ps : Nat) (h0_as : Nat) (h0_bs : Nat) (h0_from : Nat) (h0_kernelPoint : Nat) (h0_kernelOrder : Nat) (h0_marked : Nat) (h0_seen : Nat) (t_p : Int32) (t_a : Int32) (t_b : Int32) (t_rooted : Int32) (t_pointMany : Int32) (t_curves : Int32) (a0 : Int32) (a1 : Int32) (a2 : Int32) (rr : Int32) (h : mX6_lift_n N a0 a1 a2 = some rr) (hk0 : mX6_in N a0.toInt64 0 ((t_curves - 1).toInt64) = some 0) : Met l yX6_lift wsX6_lift_n rmX6_lift_n (va_Pc [.ref h0, .int a0, .int a1, .int a2] (fun U => va_P (dC, dI) vwCl [(h0, .inr (5, [.int t_p, .int t_a, .int t_b, .ref h0_inverses, .ref h0_roots, .int t_rooted, .ref h0_points, .int t_pointMany, .ref h0_ahead, .int t_curves, .ref h0_ps, .ref h0_as, .ref h0_bs, .ref h0_from, .ref h0_kernelPoint, .ref h0_kernelOrder, .ref h0_marked, .ref h0_seen]))] U.heap ∧ va_K (dC, dI) vwCl [] U ∧ nw_all U)) (vp_Si (fun r => r = rr)) 0 0 (fun _ => False) := by
  refine Met.ofW (cc := cX6_lift) (maxL := 6) (ret := (some .int)) (by decide) rfl ?_
  intro p e s m args below meth c s₁ B hml hv
  obtain ⟨rfl, hP, hK, hN⟩ := hv
  have hx := B.exec
  have hb := B.bytes
  have hr := B.returns
  have hts := atoms_spec (ws := wsX6_lift_n) B.pre
  have hown : s.vm.findClass RX6 = some m.cls := findClass_of_methodNamed B.named
  have hlocks := B.notSynchronized
  have hl := lv_entry ([.ref h0, .int a0, .int a1, .int a2]) (n := 6) (Nat.le_of_ble_eq_true rfl)
  rw [lg_entry_eq]
  generalize (lg_sl ([.ref h0, .int a0, .int a1, .int a2]) ++ List.replicate (6 - (lg_sl ([.ref h0, .int a0, .int a1, .int a2])).length) Slot.unset).toArray = ls at hl ⊢
  have hl : lv_has ls 6 [(0, .ref h0), (1, .int a0), (2, .int a1), (3, .int a2)] := hl
  dsimp only [mX6_lift_n] at h
  refine lv_aload_n hx hb dX6_lift_0 rfl (lv_at hl 0 rfl) ?_
  refine lv_iload_n hx hb dX6_lift_1 rfl (lv_at hl 1 rfl) ?_
  have hPc := hP.sub (ws' := [(h0, .inr (5, [.int t_p, .int t_a, .int t_b, .ref h0_inverses, .ref h0_roots, .int t_rooted, .ref h0_points, .int t_pointMany, .ref h0_ahead, .int t_curves, .ref h0_ps, .ref h0_as, .ref h0_bs, .ref h0_from, .ref h0_kernelPoint, .ref h0_kernelOrder, .ref h0_marked, .ref h0_seen]))]) [0] rfl
  have hKc := hK.sub (tys' := []) [] rfl
  refine vp_callSi (W.runV (As := [.int a0]) (rest := []) ⟨hx, hb, hml, hown, hts⟩ (ctX6_has_n l N dC dI  h0 h0_inverses h0_roots h0_points h0_ahead h0_ps h0_as h0_bs h0_from h0_kernelPoint h0_kernelOrder h0_marked h0_seen t_p t_a t_b t_rooted t_pointMany t_curves a0 0 rfl hk0) (cwV 1 hts gX6_lift_n_X6_has_n rfl rfl rfl (by decide +kernel) ⟨Nat.le_of_ble_eq_true rfl, Nat.le_of_ble_eq_true rfl⟩) ⟨fun a U g mk q => by obtain ⟨q0, qP, qK, qN⟩ := q; exact ⟨q0, qP, va_K.moved (u := U) (U := U.calling g mk a) (Vm.Alike.refl U.vm) qK, nw_same (u := U) (U := U.calling g mk a) rfl qN⟩, va_recv hKc hPc (ci := 5) (q0 := 0) rfl rfl, fun U hU hW => ⟨rfl, by rw [hU]; exact hPc, va_K.moved hW.alike hKc, nw_warm hW hN⟩⟩ rfl rfl hl.1 rfl (lv_room (Nat.le_of_ble_eq_true rfl)) dX6_lift_2 ⟨Nat.le_of_ble_eq_true rfl, Nat.le_of_ble_eq_true rfl⟩) (fun q9 eq9 => ?_)
  subst q9
  refine lv_if_eq (tgt := 24) hx hb dX6_lift_5 (by decide) (fun c2 => ?_) (fun c2 => ?_)
  · refine lv_bipush (v := (-2)) hx hb dX6_lift_24 (by decide) ?_
    have hv : (-2) = rr := Option.some.inj h
    exact W.iret (v := (-2)) hx hb hr (fun t ht hW => ⟨_, rfl, hv, ht⟩) (fun q hq => absurd hq List.not_mem_nil) dX6_lift_26
  · exact absurd (by decide) c2
def wsX6_near_n : List Cond := .code yX6_near cX6_near 5 (some .int) :: (([] : List Cond) ++ ((wsV RX6 132 RX6 yX6_has wsX6_has_n)))
set_option maxRecDepth 20000 in
theorem gX6_near_n_X6_has_n : GoodIn wsX6_near_n (wsV RX6 132 RX6 yX6_has wsX6_has_n) := goodIn_sub (fun w h => List.mem_cons_of_mem _ (List.mem_append_right _ (h))) (by decide +kernel)
def mX6_near_n (N : Nat) (a0 : Int32) (a1 : Int32) : Option (Int32) := some (-2)
abbrev rmX6_near_n : Room := { frames := 2, cells := 0, slots := 0, locals := 46 }
set_option maxHeartbeats 4000000 in
set_option maxRecDepth 100000 in
theorem ctX6_near_n (l : Launch) (N : Nat) (dC : Nat → ClassId) (dI : Nat → Nat → Nat) (h0 : Nat) (h0_inverses : Nat) (h0_roots : Nat) (h0_points : Nat) (h0_ahead : Nat) (h0_ps : Nat) (h0_as : Nat) (h0_bs : Nat) (h0_from : Nat) (h0_kernelPoint : Nat) (h0_kernelOrder : Nat) (h0_marked : Nat) (h0_seen : Nat) (t_p : Int32) (t_a : Int32) (t_b : Int32) (t_rooted : Int32) (t_pointMany : Int32) (t_curves : Int32) (a0 : Int32) (a1 : Int32) (rr : Int32) (h : mX6_near_n N a0 a1 = some rr) (hk0 : mX6_in N a0.toInt64 0 ((t_curves - 1).toInt64) = some 0) : Met l yX6_near wsX6_near_n rmX6_near_n (va_Pc [.ref h0, .int a0, .int a1] (fun U => va_P (dC, dI) vwCl [(h0, .inr (5, [.int t_p, .int t_a, .int t_b, .ref h0_inverses, .ref h0_roots, .int t_rooted, .ref h0_points, .int t_pointMany, .ref h0_ahead, .int t_curves, .ref h0_ps, .ref h0_as, .ref h0_bs, .ref h0_from, .ref h0_kernelPoint, .ref h0_kernelOrder, .ref h0_marked, .ref h0_seen]))] U.heap ∧ va_K (dC, dI) vwCl [] U ∧ nw_all U)) (vp_Si (fun r => r = rr)) 0 0 (fun _ => False) := by
  refine Met.ofW (cc := cX6_near) (maxL := 5) (ret := (some .int)) (by decide) rfl ?_
  intro p e s m args below meth c s₁ B hml hv
  obtain ⟨rfl, hP, hK, hN⟩ := hv
  have hx := B.exec
  have hb := B.bytes
  have hr := B.returns
  have hts := atoms_spec (ws := wsX6_near_n) B.pre
  have hown : s.vm.findClass RX6 = some m.cls := findClass_of_methodNamed B.named
  have hlocks := B.notSynchronized
  have hl := lv_entry ([.ref h0, .int a0, .int a1]) (n := 5) (Nat.le_of_ble_eq_true rfl)
  rw [lg_entry_eq]
  generalize (lg_sl ([.ref h0, .int a0, .int a1]) ++ List.replicate (5 - (lg_sl ([.ref h0, .int a0, .int a1])).length) Slot.unset).toArray = ls at hl ⊢
  have hl : lv_has ls 5 [(0, .ref h0), (1, .int a0), (2, .int a1)] := hl
  dsimp only [mX6_near_n] at h
  refine lv_aload_n hx hb dX6_near_0 rfl (lv_at hl 0 rfl) ?_
  refine lv_iload_n hx hb dX6_near_1 rfl (lv_at hl 1 rfl) ?_
  have hPc := hP.sub (ws' := [(h0, .inr (5, [.int t_p, .int t_a, .int t_b, .ref h0_inverses, .ref h0_roots, .int t_rooted, .ref h0_points, .int t_pointMany, .ref h0_ahead, .int t_curves, .ref h0_ps, .ref h0_as, .ref h0_bs, .ref h0_from, .ref h0_kernelPoint, .ref h0_kernelOrder, .ref h0_marked, .ref h0_seen]))]) [0] rfl
  have hKc := hK.sub (tys' := []) [] rfl
  refine vp_callSi (W.runV (As := [.int a0]) (rest := []) ⟨hx, hb, hml, hown, hts⟩ (ctX6_has_n l N dC dI  h0 h0_inverses h0_roots h0_points h0_ahead h0_ps h0_as h0_bs h0_from h0_kernelPoint h0_kernelOrder h0_marked h0_seen t_p t_a t_b t_rooted t_pointMany t_curves a0 0 rfl hk0) (cwV 1 hts gX6_near_n_X6_has_n rfl rfl rfl (by decide +kernel) ⟨Nat.le_of_ble_eq_true rfl, Nat.le_of_ble_eq_true rfl⟩) ⟨fun a U g mk q => by obtain ⟨q0, qP, qK, qN⟩ := q; exact ⟨q0, qP, va_K.moved (u := U) (U := U.calling g mk a) (Vm.Alike.refl U.vm) qK, nw_same (u := U) (U := U.calling g mk a) rfl qN⟩, va_recv hKc hPc (ci := 5) (q0 := 0) rfl rfl, fun U hU hW => ⟨rfl, by rw [hU]; exact hPc, va_K.moved hW.alike hKc, nw_warm hW hN⟩⟩ rfl rfl hl.1 rfl (lv_room (Nat.le_of_ble_eq_true rfl)) dX6_near_2 ⟨Nat.le_of_ble_eq_true rfl, Nat.le_of_ble_eq_true rfl⟩) (fun q9 eq9 => ?_)
  subst q9
  refine lv_if_ne (tgt := 11) hx hb dX6_near_5 (by decide) (fun c2 => ?_) (fun c2 => ?_)
  · exact absurd (by decide) c2
  · refine lv_bipush (v := (-2)) hx hb dX6_near_8 (by decide) ?_
    have hv : (-2) = rr := Option.some.inj h
    exact W.iret (v := (-2)) hx hb hr (fun t ht hW => ⟨_, rfl, hv, ht⟩) (fun q hq => absurd hq List.not_mem_nil) dX6_near_10
def wsX6_nth_n : List Cond := .code yX6_nth cX6_nth 3 (some .int) :: (([] : List Cond) ++ ((wsV RX6 132 RX6 yX6_has wsX6_has_n)))
set_option maxRecDepth 20000 in
theorem gX6_nth_n_X6_has_n : GoodIn wsX6_nth_n (wsV RX6 132 RX6 yX6_has wsX6_has_n) := goodIn_sub (fun w h => List.mem_cons_of_mem _ (List.mem_append_right _ (h))) (by decide +kernel)
def mX6_nth_n (N : Nat) (a0 : Int32) (a1 : Int32) : Option (Int32) := some (-2)
abbrev rmX6_nth_n : Room := { frames := 2, cells := 0, slots := 0, locals := 46 }
set_option maxHeartbeats 4000000 in
set_option maxRecDepth 100000 in
theorem ctX6_nth_n (l : Launch) (N : Nat) (dC : Nat → ClassId) (dI : Nat → Nat → Nat) (h0 : Nat) (h0_inverses : Nat) (h0_roots : Nat) (h0_points : Nat) (h0_ahead : Nat) (h0_ps : Nat) (h0_as : Nat) (h0_bs : Nat) (h0_from : Nat) (h0_kernelPoint : Nat) (h0_kernelOrder : Nat) (h0_marked : Nat) (h0_seen : Nat) (t_p : Int32) (t_a : Int32) (t_b : Int32) (t_rooted : Int32) (t_pointMany : Int32) (t_curves : Int32) (a0 : Int32) (a1 : Int32) (rr : Int32) (h : mX6_nth_n N a0 a1 = some rr) (hk0 : mX6_in N a0.toInt64 0 ((t_curves - 1).toInt64) = some 0) : Met l yX6_nth wsX6_nth_n rmX6_nth_n (va_Pc [.ref h0, .int a0, .int a1] (fun U => va_P (dC, dI) vwCl [(h0, .inr (5, [.int t_p, .int t_a, .int t_b, .ref h0_inverses, .ref h0_roots, .int t_rooted, .ref h0_points, .int t_pointMany, .ref h0_ahead, .int t_curves, .ref h0_ps, .ref h0_as, .ref h0_bs, .ref h0_from, .ref h0_kernelPoint, .ref h0_kernelOrder, .ref h0_marked, .ref h0_seen]))] U.heap ∧ va_K (dC, dI) vwCl [] U ∧ nw_all U)) (vp_Si (fun r => r = rr)) 0 0 (fun _ => False) := by
  refine Met.ofW (cc := cX6_nth) (maxL := 3) (ret := (some .int)) (by decide) rfl ?_
  intro p e s m args below meth c s₁ B hml hv
  obtain ⟨rfl, hP, hK, hN⟩ := hv
  have hx := B.exec
  have hb := B.bytes
  have hr := B.returns
  have hts := atoms_spec (ws := wsX6_nth_n) B.pre
  have hown : s.vm.findClass RX6 = some m.cls := findClass_of_methodNamed B.named
  have hlocks := B.notSynchronized
  have hl := lv_entry ([.ref h0, .int a0, .int a1]) (n := 3) (Nat.le_of_ble_eq_true rfl)
  rw [lg_entry_eq]
  generalize (lg_sl ([.ref h0, .int a0, .int a1]) ++ List.replicate (3 - (lg_sl ([.ref h0, .int a0, .int a1])).length) Slot.unset).toArray = ls at hl ⊢
  have hl : lv_has ls 3 [(0, .ref h0), (1, .int a0), (2, .int a1)] := hl
  dsimp only [mX6_nth_n] at h
  refine lv_aload_n hx hb dX6_nth_0 rfl (lv_at hl 0 rfl) ?_
  refine lv_iload_n hx hb dX6_nth_1 rfl (lv_at hl 1 rfl) ?_
  have hPc := hP.sub (ws' := [(h0, .inr (5, [.int t_p, .int t_a, .int t_b, .ref h0_inverses, .ref h0_roots, .int t_rooted, .ref h0_points, .int t_pointMany, .ref h0_ahead, .int t_curves, .ref h0_ps, .ref h0_as, .ref h0_bs, .ref h0_from, .ref h0_kernelPoint, .ref h0_kernelOrder, .ref h0_marked, .ref h0_seen]))]) [0] rfl
  have hKc := hK.sub (tys' := []) [] rfl
  refine vp_callSi (W.runV (As := [.int a0]) (rest := []) ⟨hx, hb, hml, hown, hts⟩ (ctX6_has_n l N dC dI  h0 h0_inverses h0_roots h0_points h0_ahead h0_ps h0_as h0_bs h0_from h0_kernelPoint h0_kernelOrder h0_marked h0_seen t_p t_a t_b t_rooted t_pointMany t_curves a0 0 rfl hk0) (cwV 1 hts gX6_nth_n_X6_has_n rfl rfl rfl (by decide +kernel) ⟨Nat.le_of_ble_eq_true rfl, Nat.le_of_ble_eq_true rfl⟩) ⟨fun a U g mk q => by obtain ⟨q0, qP, qK, qN⟩ := q; exact ⟨q0, qP, va_K.moved (u := U) (U := U.calling g mk a) (Vm.Alike.refl U.vm) qK, nw_same (u := U) (U := U.calling g mk a) rfl qN⟩, va_recv hKc hPc (ci := 5) (q0 := 0) rfl rfl, fun U hU hW => ⟨rfl, by rw [hU]; exact hPc, va_K.moved hW.alike hKc, nw_warm hW hN⟩⟩ rfl rfl hl.1 rfl (lv_room (Nat.le_of_ble_eq_true rfl)) dX6_nth_2 ⟨Nat.le_of_ble_eq_true rfl, Nat.le_of_ble_eq_true rfl⟩) (fun q9 eq9 => ?_)
  subst q9
  refine lv_if_ne (tgt := 11) hx hb dX6_nth_5 (by decide) (fun c2 => ?_) (fun c2 => ?_)
  · exact absurd (by decide) c2
  · refine lv_bipush (v := (-2)) hx hb dX6_nth_8 (by decide) ?_
    have hv : (-2) = rr := Option.some.inj h
    exact W.iret (v := (-2)) hx hb hr (fun t ht hW => ⟨_, rfl, hv, ht⟩) (fun q hq => absurd hq List.not_mem_nil) dX6_nth_10
def wsX6_rank_n : List Cond := .code yX6_rank cX6_rank 4 (some .int) :: (([] : List Cond) ++ ((wsV RX6 132 RX6 yX6_has wsX6_has_n)))
set_option maxRecDepth 20000 in
theorem gX6_rank_n_X6_has_n : GoodIn wsX6_rank_n (wsV RX6 132 RX6 yX6_has wsX6_has_n) := goodIn_sub (fun w h => List.mem_cons_of_mem _ (List.mem_append_right _ (h))) (by decide +kernel)
def mX6_rank_n (N : Nat) (a0 : Int32) (a1 : Int32) : Option (Int32) := some (-2)
abbrev rmX6_rank_n : Room := { frames := 2, cells := 0, slots := 0, locals := 46 }
set_option maxHeartbeats 4000000 in
set_option maxRecDepth 100000 in
theorem ctX6_rank_n (l : Launch) (N : Nat) (dC : Nat → ClassId) (dI : Nat → Nat → Nat) (h0 : Nat) (h0_inverses : Nat) (h0_roots : Nat) (h0_points : Nat) (h0_ahead : Nat) (h0_ps : Nat) (h0_as : Nat) (h0_bs : Nat) (h0_from : Nat) (h0_kernelPoint : Nat) (h0_kernelOrder : Nat) (h0_marked : Nat) (h0_seen : Nat) (t_p : Int32) (t_a : Int32) (t_b : Int32) (t_rooted : Int32) (t_pointMany : Int32) (t_curves : Int32) (a0 : Int32) (a1 : Int32) (rr : Int32) (h : mX6_rank_n N a0 a1 = some rr) (hk0 : mX6_in N a0.toInt64 0 ((t_curves - 1).toInt64) = some 0) : Met l yX6_rank wsX6_rank_n rmX6_rank_n (va_Pc [.ref h0, .int a0, .int a1] (fun U => va_P (dC, dI) vwCl [(h0, .inr (5, [.int t_p, .int t_a, .int t_b, .ref h0_inverses, .ref h0_roots, .int t_rooted, .ref h0_points, .int t_pointMany, .ref h0_ahead, .int t_curves, .ref h0_ps, .ref h0_as, .ref h0_bs, .ref h0_from, .ref h0_kernelPoint, .ref h0_kernelOrder, .ref h0_marked, .ref h0_seen]))] U.heap ∧ va_K (dC, dI) vwCl [] U ∧ nw_all U)) (vp_Si (fun r => r = rr)) 0 0 (fun _ => False) := by
  refine Met.ofW (cc := cX6_rank) (maxL := 4) (ret := (some .int)) (by decide) rfl ?_
  intro p e s m args below meth c s₁ B hml hv
  obtain ⟨rfl, hP, hK, hN⟩ := hv
  have hx := B.exec
  have hb := B.bytes
  have hr := B.returns
  have hts := atoms_spec (ws := wsX6_rank_n) B.pre
  have hown : s.vm.findClass RX6 = some m.cls := findClass_of_methodNamed B.named
  have hlocks := B.notSynchronized
  have hl := lv_entry ([.ref h0, .int a0, .int a1]) (n := 4) (Nat.le_of_ble_eq_true rfl)
  rw [lg_entry_eq]
  generalize (lg_sl ([.ref h0, .int a0, .int a1]) ++ List.replicate (4 - (lg_sl ([.ref h0, .int a0, .int a1])).length) Slot.unset).toArray = ls at hl ⊢
  have hl : lv_has ls 4 [(0, .ref h0), (1, .int a0), (2, .int a1)] := hl
  dsimp only [mX6_rank_n] at h
  refine lv_aload_n hx hb dX6_rank_0 rfl (lv_at hl 0 rfl) ?_
  refine lv_iload_n hx hb dX6_rank_1 rfl (lv_at hl 1 rfl) ?_
  have hPc := hP.sub (ws' := [(h0, .inr (5, [.int t_p, .int t_a, .int t_b, .ref h0_inverses, .ref h0_roots, .int t_rooted, .ref h0_points, .int t_pointMany, .ref h0_ahead, .int t_curves, .ref h0_ps, .ref h0_as, .ref h0_bs, .ref h0_from, .ref h0_kernelPoint, .ref h0_kernelOrder, .ref h0_marked, .ref h0_seen]))]) [0] rfl
  have hKc := hK.sub (tys' := []) [] rfl
  refine vp_callSi (W.runV (As := [.int a0]) (rest := []) ⟨hx, hb, hml, hown, hts⟩ (ctX6_has_n l N dC dI  h0 h0_inverses h0_roots h0_points h0_ahead h0_ps h0_as h0_bs h0_from h0_kernelPoint h0_kernelOrder h0_marked h0_seen t_p t_a t_b t_rooted t_pointMany t_curves a0 0 rfl hk0) (cwV 1 hts gX6_rank_n_X6_has_n rfl rfl rfl (by decide +kernel) ⟨Nat.le_of_ble_eq_true rfl, Nat.le_of_ble_eq_true rfl⟩) ⟨fun a U g mk q => by obtain ⟨q0, qP, qK, qN⟩ := q; exact ⟨q0, qP, va_K.moved (u := U) (U := U.calling g mk a) (Vm.Alike.refl U.vm) qK, nw_same (u := U) (U := U.calling g mk a) rfl qN⟩, va_recv hKc hPc (ci := 5) (q0 := 0) rfl rfl, fun U hU hW => ⟨rfl, by rw [hU]; exact hPc, va_K.moved hW.alike hKc, nw_warm hW hN⟩⟩ rfl rfl hl.1 rfl (lv_room (Nat.le_of_ble_eq_true rfl)) dX6_rank_2 ⟨Nat.le_of_ble_eq_true rfl, Nat.le_of_ble_eq_true rfl⟩) (fun q9 eq9 => ?_)
  subst q9
  refine lv_if_eq (tgt := 16) hx hb dX6_rank_5 (by decide) (fun c2 => ?_) (fun c2 => ?_)
  · refine lv_bipush (v := (-2)) hx hb dX6_rank_16 (by decide) ?_
    have hv : (-2) = rr := Option.some.inj h
    exact W.iret (v := (-2)) hx hb hr (fun t ht hW => ⟨_, rfl, hv, ht⟩) (fun q hq => absurd hq List.not_mem_nil) dX6_rank_18
  · exact absurd (by decide) c2
def wsX6_add_n : List Cond := .code yX6_add cX6_add 4 (some .int) :: (([] : List Cond) ++ ((wsV RX6 132 RX6 yX6_has wsX6_has_n)))
set_option maxRecDepth 20000 in
theorem gX6_add_n_X6_has_n : GoodIn wsX6_add_n (wsV RX6 132 RX6 yX6_has wsX6_has_n) := goodIn_sub (fun w h => List.mem_cons_of_mem _ (List.mem_append_right _ (h))) (by decide +kernel)
def mX6_add_n (N : Nat) (a0 : Int32) (a1 : Int32) (a2 : Int32) : Option (Int32) := some (-2)
abbrev rmX6_add_n : Room := { frames := 2, cells := 0, slots := 0, locals := 46 }
set_option maxHeartbeats 4000000 in
set_option maxRecDepth 100000 in
theorem ctX6_add_n (l : Launch) (N : Nat) (dC : Nat → ClassId) (dI : Nat → Nat → Nat) (h0 : Nat) (h0_inverses : Nat) (h0_roots : Nat) (h0_points : Nat) (h0_ahead : Nat) (h0_ps : Nat) (h0_as : Nat) (h0_bs : Nat) (h0_from : Nat) (h0_kernelPoint : Nat) (h0_kernelOrder : Nat) (h0_marked : Nat) (h0_seen : Nat) (t_p : Int32) (t_a : Int32) (t_b : Int32) (t_rooted : Int32) (t_pointMany : Int32) (t_curves : Int32) (a0 : Int32) (a1 : Int32) (a2 : Int32) (rr : Int32) (h : mX6_add_n N a0 a1 a2 = some rr) (hk0 : mX6_in N a0.toInt64 0 ((t_curves - 1).toInt64) = some 0) : Met l yX6_add wsX6_add_n rmX6_add_n (va_Pc [.ref h0, .int a0, .int a1, .int a2] (fun U => va_P (dC, dI) vwCl [(h0, .inr (5, [.int t_p, .int t_a, .int t_b, .ref h0_inverses, .ref h0_roots, .int t_rooted, .ref h0_points, .int t_pointMany, .ref h0_ahead, .int t_curves, .ref h0_ps, .ref h0_as, .ref h0_bs, .ref h0_from, .ref h0_kernelPoint, .ref h0_kernelOrder, .ref h0_marked, .ref h0_seen]))] U.heap ∧ va_K (dC, dI) vwCl [] U ∧ nw_all U)) (vp_Si (fun r => r = rr)) 0 0 (fun _ => False) := by
  refine Met.ofW (cc := cX6_add) (maxL := 4) (ret := (some .int)) (by decide) rfl ?_
  intro p e s m args below meth c s₁ B hml hv
  obtain ⟨rfl, hP, hK, hN⟩ := hv
  have hx := B.exec
  have hb := B.bytes
  have hr := B.returns
  have hts := atoms_spec (ws := wsX6_add_n) B.pre
  have hown : s.vm.findClass RX6 = some m.cls := findClass_of_methodNamed B.named
  have hlocks := B.notSynchronized
  have hl := lv_entry ([.ref h0, .int a0, .int a1, .int a2]) (n := 4) (Nat.le_of_ble_eq_true rfl)
  rw [lg_entry_eq]
  generalize (lg_sl ([.ref h0, .int a0, .int a1, .int a2]) ++ List.replicate (4 - (lg_sl ([.ref h0, .int a0, .int a1, .int a2])).length) Slot.unset).toArray = ls at hl ⊢
  have hl : lv_has ls 4 [(0, .ref h0), (1, .int a0), (2, .int a1), (3, .int a2)] := hl
  dsimp only [mX6_add_n] at h
  refine lv_aload_n hx hb dX6_add_0 rfl (lv_at hl 0 rfl) ?_
  refine lv_iload_n hx hb dX6_add_1 rfl (lv_at hl 1 rfl) ?_
  have hPc := hP.sub (ws' := [(h0, .inr (5, [.int t_p, .int t_a, .int t_b, .ref h0_inverses, .ref h0_roots, .int t_rooted, .ref h0_points, .int t_pointMany, .ref h0_ahead, .int t_curves, .ref h0_ps, .ref h0_as, .ref h0_bs, .ref h0_from, .ref h0_kernelPoint, .ref h0_kernelOrder, .ref h0_marked, .ref h0_seen]))]) [0] rfl
  have hKc := hK.sub (tys' := []) [] rfl
  refine vp_callSi (W.runV (As := [.int a0]) (rest := []) ⟨hx, hb, hml, hown, hts⟩ (ctX6_has_n l N dC dI  h0 h0_inverses h0_roots h0_points h0_ahead h0_ps h0_as h0_bs h0_from h0_kernelPoint h0_kernelOrder h0_marked h0_seen t_p t_a t_b t_rooted t_pointMany t_curves a0 0 rfl hk0) (cwV 1 hts gX6_add_n_X6_has_n rfl rfl rfl (by decide +kernel) ⟨Nat.le_of_ble_eq_true rfl, Nat.le_of_ble_eq_true rfl⟩) ⟨fun a U g mk q => by obtain ⟨q0, qP, qK, qN⟩ := q; exact ⟨q0, qP, va_K.moved (u := U) (U := U.calling g mk a) (Vm.Alike.refl U.vm) qK, nw_same (u := U) (U := U.calling g mk a) rfl qN⟩, va_recv hKc hPc (ci := 5) (q0 := 0) rfl rfl, fun U hU hW => ⟨rfl, by rw [hU]; exact hPc, va_K.moved hW.alike hKc, nw_warm hW hN⟩⟩ rfl rfl hl.1 rfl (lv_room (Nat.le_of_ble_eq_true rfl)) dX6_add_2 ⟨Nat.le_of_ble_eq_true rfl, Nat.le_of_ble_eq_true rfl⟩) (fun q9 eq9 => ?_)
  subst q9
  refine lv_if_eq (tgt := 33) hx hb dX6_add_5 (by decide) (fun c2 => ?_) (fun c2 => ?_)
  · refine lv_bipush (v := (-2)) hx hb dX6_add_33 (by decide) ?_
    have hv : (-2) = rr := Option.some.inj h
    exact W.iret (v := (-2)) hx hb hr (fun t ht hW => ⟨_, rfl, hv, ht⟩) (fun q hq => absurd hq List.not_mem_nil) dX6_add_35
  · exact absurd (by decide) c2
def wsX6_negative_n : List Cond := .code yX6_negative cX6_negative 3 (some .int) :: (([] : List Cond) ++ ((wsV RX6 132 RX6 yX6_has wsX6_has_n)))
set_option maxRecDepth 20000 in
theorem gX6_negative_n_X6_has_n : GoodIn wsX6_negative_n (wsV RX6 132 RX6 yX6_has wsX6_has_n) := goodIn_sub (fun w h => List.mem_cons_of_mem _ (List.mem_append_right _ (h))) (by decide +kernel)
def mX6_negative_n (N : Nat) (a0 : Int32) (a1 : Int32) : Option (Int32) := some (-2)
abbrev rmX6_negative_n : Room := { frames := 2, cells := 0, slots := 0, locals := 46 }
set_option maxHeartbeats 4000000 in
set_option maxRecDepth 100000 in
theorem ctX6_negative_n (l : Launch) (N : Nat) (dC : Nat → ClassId) (dI : Nat → Nat → Nat) (h0 : Nat) (h0_inverses : Nat) (h0_roots : Nat) (h0_points : Nat) (h0_ahead : Nat) (h0_ps : Nat) (h0_as : Nat) (h0_bs : Nat) (h0_from : Nat) (h0_kernelPoint : Nat) (h0_kernelOrder : Nat) (h0_marked : Nat) (h0_seen : Nat) (t_p : Int32) (t_a : Int32) (t_b : Int32) (t_rooted : Int32) (t_pointMany : Int32) (t_curves : Int32) (a0 : Int32) (a1 : Int32) (rr : Int32) (h : mX6_negative_n N a0 a1 = some rr) (hk0 : mX6_in N a0.toInt64 0 ((t_curves - 1).toInt64) = some 0) : Met l yX6_negative wsX6_negative_n rmX6_negative_n (va_Pc [.ref h0, .int a0, .int a1] (fun U => va_P (dC, dI) vwCl [(h0, .inr (5, [.int t_p, .int t_a, .int t_b, .ref h0_inverses, .ref h0_roots, .int t_rooted, .ref h0_points, .int t_pointMany, .ref h0_ahead, .int t_curves, .ref h0_ps, .ref h0_as, .ref h0_bs, .ref h0_from, .ref h0_kernelPoint, .ref h0_kernelOrder, .ref h0_marked, .ref h0_seen]))] U.heap ∧ va_K (dC, dI) vwCl [] U ∧ nw_all U)) (vp_Si (fun r => r = rr)) 0 0 (fun _ => False) := by
  refine Met.ofW (cc := cX6_negative) (maxL := 3) (ret := (some .int)) (by decide) rfl ?_
  intro p e s m args below meth c s₁ B hml hv
  obtain ⟨rfl, hP, hK, hN⟩ := hv
  have hx := B.exec
  have hb := B.bytes
  have hr := B.returns
  have hts := atoms_spec (ws := wsX6_negative_n) B.pre
  have hown : s.vm.findClass RX6 = some m.cls := findClass_of_methodNamed B.named
  have hlocks := B.notSynchronized
  have hl := lv_entry ([.ref h0, .int a0, .int a1]) (n := 3) (Nat.le_of_ble_eq_true rfl)
  rw [lg_entry_eq]
  generalize (lg_sl ([.ref h0, .int a0, .int a1]) ++ List.replicate (3 - (lg_sl ([.ref h0, .int a0, .int a1])).length) Slot.unset).toArray = ls at hl ⊢
  have hl : lv_has ls 3 [(0, .ref h0), (1, .int a0), (2, .int a1)] := hl
  dsimp only [mX6_negative_n] at h
  refine lv_aload_n hx hb dX6_negative_0 rfl (lv_at hl 0 rfl) ?_
  refine lv_iload_n hx hb dX6_negative_1 rfl (lv_at hl 1 rfl) ?_
  have hPc := hP.sub (ws' := [(h0, .inr (5, [.int t_p, .int t_a, .int t_b, .ref h0_inverses, .ref h0_roots, .int t_rooted, .ref h0_points, .int t_pointMany, .ref h0_ahead, .int t_curves, .ref h0_ps, .ref h0_as, .ref h0_bs, .ref h0_from, .ref h0_kernelPoint, .ref h0_kernelOrder, .ref h0_marked, .ref h0_seen]))]) [0] rfl
  have hKc := hK.sub (tys' := []) [] rfl
  refine vp_callSi (W.runV (As := [.int a0]) (rest := []) ⟨hx, hb, hml, hown, hts⟩ (ctX6_has_n l N dC dI  h0 h0_inverses h0_roots h0_points h0_ahead h0_ps h0_as h0_bs h0_from h0_kernelPoint h0_kernelOrder h0_marked h0_seen t_p t_a t_b t_rooted t_pointMany t_curves a0 0 rfl hk0) (cwV 1 hts gX6_negative_n_X6_has_n rfl rfl rfl (by decide +kernel) ⟨Nat.le_of_ble_eq_true rfl, Nat.le_of_ble_eq_true rfl⟩) ⟨fun a U g mk q => by obtain ⟨q0, qP, qK, qN⟩ := q; exact ⟨q0, qP, va_K.moved (u := U) (U := U.calling g mk a) (Vm.Alike.refl U.vm) qK, nw_same (u := U) (U := U.calling g mk a) rfl qN⟩, va_recv hKc hPc (ci := 5) (q0 := 0) rfl rfl, fun U hU hW => ⟨rfl, by rw [hU]; exact hPc, va_K.moved hW.alike hKc, nw_warm hW hN⟩⟩ rfl rfl hl.1 rfl (lv_room (Nat.le_of_ble_eq_true rfl)) dX6_negative_2 ⟨Nat.le_of_ble_eq_true rfl, Nat.le_of_ble_eq_true rfl⟩) (fun q9 eq9 => ?_)
  subst q9
  refine lv_if_eq (tgt := 24) hx hb dX6_negative_5 (by decide) (fun c2 => ?_) (fun c2 => ?_)
  · refine lv_bipush (v := (-2)) hx hb dX6_negative_24 (by decide) ?_
    have hv : (-2) = rr := Option.some.inj h
    exact W.iret (v := (-2)) hx hb hr (fun t ht hW => ⟨_, rfl, hv, ht⟩) (fun q hq => absurd hq List.not_mem_nil) dX6_negative_26
  · exact absurd (by decide) c2
def wsX6_times_n : List Cond := .code yX6_times cX6_times 5 (some .int) :: (([] : List Cond) ++ ((wsV RX6 132 RX6 yX6_has wsX6_has_n)))
set_option maxRecDepth 20000 in
theorem gX6_times_n_X6_has_n : GoodIn wsX6_times_n (wsV RX6 132 RX6 yX6_has wsX6_has_n) := goodIn_sub (fun w h => List.mem_cons_of_mem _ (List.mem_append_right _ (h))) (by decide +kernel)
def mX6_times_n (N : Nat) (a0 : Int32) (a1 : Int32) (a2 : Int64) : Option (Int32) := some (-2)
abbrev rmX6_times_n : Room := { frames := 2, cells := 0, slots := 0, locals := 46 }
set_option maxHeartbeats 4000000 in
set_option maxRecDepth 100000 in
theorem ctX6_times_n (l : Launch) (N : Nat) (dC : Nat → ClassId) (dI : Nat → Nat → Nat) (h0 : Nat) (h0_inverses : Nat) (h0_roots : Nat) (h0_points : Nat) (h0_ahead : Nat) (h0_ps : Nat) (h0_as : Nat) (h0_bs : Nat) (h0_from : Nat) (h0_kernelPoint : Nat) (h0_kernelOrder : Nat) (h0_marked : Nat) (h0_seen : Nat) (t_p : Int32) (t_a : Int32) (t_b : Int32) (t_rooted : Int32) (t_pointMany : Int32) (t_curves : Int32) (a0 : Int32) (a1 : Int32) (a2 : Int64) (rr : Int32) (h : mX6_times_n N a0 a1 a2 = some rr) (hk0 : mX6_in N a0.toInt64 0 ((t_curves - 1).toInt64) = some 0) : Met l yX6_times wsX6_times_n rmX6_times_n (va_Pc [.ref h0, .int a0, .int a1, .long a2] (fun U => va_P (dC, dI) vwCl [(h0, .inr (5, [.int t_p, .int t_a, .int t_b, .ref h0_inverses, .ref h0_roots, .int t_rooted, .ref h0_points, .int t_pointMany, .ref h0_ahead, .int t_curves, .ref h0_ps, .ref h0_as, .ref h0_bs, .ref h0_from, .ref h0_kernelPoint, .ref h0_kernelOrder, .ref h0_marked, .ref h0_seen]))] U.heap ∧ va_K (dC, dI) vwCl [] U ∧ nw_all U)) (vp_Si (fun r => r = rr)) 0 0 (fun _ => False) := by
  refine Met.ofW (cc := cX6_times) (maxL := 5) (ret := (some .int)) (by decide) rfl ?_
  intro p e s m args below meth c s₁ B hml hv
  obtain ⟨rfl, hP, hK, hN⟩ := hv
  have hx := B.exec
  have hb := B.bytes
  have hr := B.returns
  have hts := atoms_spec (ws := wsX6_times_n) B.pre
  have hown : s.vm.findClass RX6 = some m.cls := findClass_of_methodNamed B.named
  have hlocks := B.notSynchronized
  have hl := lv_entry ([.ref h0, .int a0, .int a1, .long a2]) (n := 5) (Nat.le_of_ble_eq_true rfl)
  rw [lg_entry_eq]
  generalize (lg_sl ([.ref h0, .int a0, .int a1, .long a2]) ++ List.replicate (5 - (lg_sl ([.ref h0, .int a0, .int a1, .long a2])).length) Slot.unset).toArray = ls at hl ⊢
  have hl : lv_has ls 5 [(0, .ref h0), (1, .int a0), (2, .int a1), (3, .long a2)] := hl
  dsimp only [mX6_times_n] at h
  refine lv_aload_n hx hb dX6_times_0 rfl (lv_at hl 0 rfl) ?_
  refine lv_iload_n hx hb dX6_times_1 rfl (lv_at hl 1 rfl) ?_
  have hPc := hP.sub (ws' := [(h0, .inr (5, [.int t_p, .int t_a, .int t_b, .ref h0_inverses, .ref h0_roots, .int t_rooted, .ref h0_points, .int t_pointMany, .ref h0_ahead, .int t_curves, .ref h0_ps, .ref h0_as, .ref h0_bs, .ref h0_from, .ref h0_kernelPoint, .ref h0_kernelOrder, .ref h0_marked, .ref h0_seen]))]) [0] rfl
  have hKc := hK.sub (tys' := []) [] rfl
  refine vp_callSi (W.runV (As := [.int a0]) (rest := []) ⟨hx, hb, hml, hown, hts⟩ (ctX6_has_n l N dC dI  h0 h0_inverses h0_roots h0_points h0_ahead h0_ps h0_as h0_bs h0_from h0_kernelPoint h0_kernelOrder h0_marked h0_seen t_p t_a t_b t_rooted t_pointMany t_curves a0 0 rfl hk0) (cwV 1 hts gX6_times_n_X6_has_n rfl rfl rfl (by decide +kernel) ⟨Nat.le_of_ble_eq_true rfl, Nat.le_of_ble_eq_true rfl⟩) ⟨fun a U g mk q => by obtain ⟨q0, qP, qK, qN⟩ := q; exact ⟨q0, qP, va_K.moved (u := U) (U := U.calling g mk a) (Vm.Alike.refl U.vm) qK, nw_same (u := U) (U := U.calling g mk a) rfl qN⟩, va_recv hKc hPc (ci := 5) (q0 := 0) rfl rfl, fun U hU hW => ⟨rfl, by rw [hU]; exact hPc, va_K.moved hW.alike hKc, nw_warm hW hN⟩⟩ rfl rfl hl.1 rfl (lv_room (Nat.le_of_ble_eq_true rfl)) dX6_times_2 ⟨Nat.le_of_ble_eq_true rfl, Nat.le_of_ble_eq_true rfl⟩) (fun q9 eq9 => ?_)
  subst q9
  refine lv_if_eq (tgt := 25) hx hb dX6_times_5 (by decide) (fun c2 => ?_) (fun c2 => ?_)
  · refine lv_bipush (v := (-2)) hx hb dX6_times_25 (by decide) ?_
    have hv : (-2) = rr := Option.some.inj h
    exact W.iret (v := (-2)) hx hb hr (fun t ht hW => ⟨_, rfl, hv, ht⟩) (fun q hq => absurd hq List.not_mem_nil) dX6_times_27
  · exact absurd (by decide) c2
def wsX6_alone_n : List Cond := .code yX6_alone cX6_alone 8 (some .int) :: (([] : List Cond) ++ ((wsV RX6 132 RX6 yX6_has wsX6_has_n)))
set_option maxRecDepth 20000 in
theorem gX6_alone_n_X6_has_n : GoodIn wsX6_alone_n (wsV RX6 132 RX6 yX6_has wsX6_has_n) := goodIn_sub (fun w h => List.mem_cons_of_mem _ (List.mem_append_right _ (h))) (by decide +kernel)
def mX6_alone_n (N : Nat) (a0 : Int32) (a1 : Int32) (a2 : Int64) : Option (Int32) := some (-2)
abbrev rmX6_alone_n : Room := { frames := 2, cells := 0, slots := 0, locals := 46 }
set_option maxHeartbeats 4000000 in
set_option maxRecDepth 100000 in
theorem ctX6_alone_n (l : Launch) (N : Nat) (dC : Nat → ClassId) (dI : Nat → Nat → Nat) (h0 : Nat) (h0_inverses : Nat) (h0_roots : Nat) (h0_points : Nat) (h0_ahead : Nat) (h0_ps : Nat) (h0_as : Nat) (h0_bs : Nat) (h0_from : Nat) (h0_kernelPoint : Nat) (h0_kernelOrder : Nat) (h0_marked : Nat) (h0_seen : Nat) (t_p : Int32) (t_a : Int32) (t_b : Int32) (t_rooted : Int32) (t_pointMany : Int32) (t_curves : Int32) (a0 : Int32) (a1 : Int32) (a2 : Int64) (rr : Int32) (h : mX6_alone_n N a0 a1 a2 = some rr) (hk0 : mX6_in N a0.toInt64 0 ((t_curves - 1).toInt64) = some 0) : Met l yX6_alone wsX6_alone_n rmX6_alone_n (va_Pc [.ref h0, .int a0, .int a1, .long a2] (fun U => va_P (dC, dI) vwCl [(h0, .inr (5, [.int t_p, .int t_a, .int t_b, .ref h0_inverses, .ref h0_roots, .int t_rooted, .ref h0_points, .int t_pointMany, .ref h0_ahead, .int t_curves, .ref h0_ps, .ref h0_as, .ref h0_bs, .ref h0_from, .ref h0_kernelPoint, .ref h0_kernelOrder, .ref h0_marked, .ref h0_seen]))] U.heap ∧ va_K (dC, dI) vwCl [] U ∧ nw_all U)) (vp_Si (fun r => r = rr)) 0 0 (fun _ => False) := by
  refine Met.ofW (cc := cX6_alone) (maxL := 8) (ret := (some .int)) (by decide) rfl ?_
  intro p e s m args below meth c s₁ B hml hv
  obtain ⟨rfl, hP, hK, hN⟩ := hv
  have hx := B.exec
  have hb := B.bytes
  have hr := B.returns
  have hts := atoms_spec (ws := wsX6_alone_n) B.pre
  have hown : s.vm.findClass RX6 = some m.cls := findClass_of_methodNamed B.named
  have hlocks := B.notSynchronized
  have hl := lv_entry ([.ref h0, .int a0, .int a1, .long a2]) (n := 8) (Nat.le_of_ble_eq_true rfl)
  rw [lg_entry_eq]
  generalize (lg_sl ([.ref h0, .int a0, .int a1, .long a2]) ++ List.replicate (8 - (lg_sl ([.ref h0, .int a0, .int a1, .long a2])).length) Slot.unset).toArray = ls at hl ⊢
  have hl : lv_has ls 8 [(0, .ref h0), (1, .int a0), (2, .int a1), (3, .long a2)] := hl
  dsimp only [mX6_alone_n] at h
  refine lv_aload_n hx hb dX6_alone_0 rfl (lv_at hl 0 rfl) ?_
  refine lv_iload_n hx hb dX6_alone_1 rfl (lv_at hl 1 rfl) ?_
  have hPc := hP.sub (ws' := [(h0, .inr (5, [.int t_p, .int t_a, .int t_b, .ref h0_inverses, .ref h0_roots, .int t_rooted, .ref h0_points, .int t_pointMany, .ref h0_ahead, .int t_curves, .ref h0_ps, .ref h0_as, .ref h0_bs, .ref h0_from, .ref h0_kernelPoint, .ref h0_kernelOrder, .ref h0_marked, .ref h0_seen]))]) [0] rfl
  have hKc := hK.sub (tys' := []) [] rfl
  refine vp_callSi (W.runV (As := [.int a0]) (rest := []) ⟨hx, hb, hml, hown, hts⟩ (ctX6_has_n l N dC dI  h0 h0_inverses h0_roots h0_points h0_ahead h0_ps h0_as h0_bs h0_from h0_kernelPoint h0_kernelOrder h0_marked h0_seen t_p t_a t_b t_rooted t_pointMany t_curves a0 0 rfl hk0) (cwV 1 hts gX6_alone_n_X6_has_n rfl rfl rfl (by decide +kernel) ⟨Nat.le_of_ble_eq_true rfl, Nat.le_of_ble_eq_true rfl⟩) ⟨fun a U g mk q => by obtain ⟨q0, qP, qK, qN⟩ := q; exact ⟨q0, qP, va_K.moved (u := U) (U := U.calling g mk a) (Vm.Alike.refl U.vm) qK, nw_same (u := U) (U := U.calling g mk a) rfl qN⟩, va_recv hKc hPc (ci := 5) (q0 := 0) rfl rfl, fun U hU hW => ⟨rfl, by rw [hU]; exact hPc, va_K.moved hW.alike hKc, nw_warm hW hN⟩⟩ rfl rfl hl.1 rfl (lv_room (Nat.le_of_ble_eq_true rfl)) dX6_alone_2 ⟨Nat.le_of_ble_eq_true rfl, Nat.le_of_ble_eq_true rfl⟩) (fun q9 eq9 => ?_)
  subst q9
  refine lv_if_eq (tgt := 24) hx hb dX6_alone_5 (by decide) (fun c2 => ?_) (fun c2 => ?_)
  · refine lv_bipush (v := (-2)) hx hb dX6_alone_24 (by decide) ?_
    have hv : (-2) = rr := Option.some.inj h
    exact W.iret (v := (-2)) hx hb hr (fun t ht hW => ⟨_, rfl, hv, ht⟩) (fun q hq => absurd hq List.not_mem_nil) dX6_alone_26
  · exact absurd (by decide) c2
def wsX6_count_n : List Cond := .code yX6_count cX6_count 2 (some .int) :: (([] : List Cond) ++ ((wsV RX6 132 RX6 yX6_has wsX6_has_n)))
set_option maxRecDepth 20000 in
theorem gX6_count_n_X6_has_n : GoodIn wsX6_count_n (wsV RX6 132 RX6 yX6_has wsX6_has_n) := goodIn_sub (fun w h => List.mem_cons_of_mem _ (List.mem_append_right _ (h))) (by decide +kernel)
def mX6_count_n (N : Nat) (a0 : Int32) : Option (Int32) := some (-2)
abbrev rmX6_count_n : Room := { frames := 2, cells := 0, slots := 0, locals := 46 }
set_option maxHeartbeats 4000000 in
set_option maxRecDepth 100000 in
theorem ctX6_count_n (l : Launch) (N : Nat) (dC : Nat → ClassId) (dI : Nat → Nat → Nat) (h0 : Nat) (h0_inverses : Nat) (h0_roots : Nat) (h0_points : Nat) (h0_ahead : Nat) (h0_ps : Nat) (h0_as : Nat) (h0_bs : Nat) (h0_from : Nat) (h0_kernelPoint : Nat) (h0_kernelOrder : Nat) (h0_marked : Nat) (h0_seen : Nat) (t_p : Int32) (t_a : Int32) (t_b : Int32) (t_rooted : Int32) (t_pointMany : Int32) (t_curves : Int32) (a0 : Int32) (rr : Int32) (h : mX6_count_n N a0 = some rr) (hk0 : mX6_in N a0.toInt64 0 ((t_curves - 1).toInt64) = some 0) : Met l yX6_count wsX6_count_n rmX6_count_n (va_Pc [.ref h0, .int a0] (fun U => va_P (dC, dI) vwCl [(h0, .inr (5, [.int t_p, .int t_a, .int t_b, .ref h0_inverses, .ref h0_roots, .int t_rooted, .ref h0_points, .int t_pointMany, .ref h0_ahead, .int t_curves, .ref h0_ps, .ref h0_as, .ref h0_bs, .ref h0_from, .ref h0_kernelPoint, .ref h0_kernelOrder, .ref h0_marked, .ref h0_seen]))] U.heap ∧ va_K (dC, dI) vwCl [] U ∧ nw_all U)) (vp_Si (fun r => r = rr)) 0 0 (fun _ => False) := by
  refine Met.ofW (cc := cX6_count) (maxL := 2) (ret := (some .int)) (by decide) rfl ?_
  intro p e s m args below meth c s₁ B hml hv
  obtain ⟨rfl, hP, hK, hN⟩ := hv
  have hx := B.exec
  have hb := B.bytes
  have hr := B.returns
  have hts := atoms_spec (ws := wsX6_count_n) B.pre
  have hown : s.vm.findClass RX6 = some m.cls := findClass_of_methodNamed B.named
  have hlocks := B.notSynchronized
  have hl := lv_entry ([.ref h0, .int a0]) (n := 2) (Nat.le_of_ble_eq_true rfl)
  rw [lg_entry_eq]
  generalize (lg_sl ([.ref h0, .int a0]) ++ List.replicate (2 - (lg_sl ([.ref h0, .int a0])).length) Slot.unset).toArray = ls at hl ⊢
  have hl : lv_has ls 2 [(0, .ref h0), (1, .int a0)] := hl
  dsimp only [mX6_count_n] at h
  refine lv_aload_n hx hb dX6_count_0 rfl (lv_at hl 0 rfl) ?_
  refine lv_iload_n hx hb dX6_count_1 rfl (lv_at hl 1 rfl) ?_
  have hPc := hP.sub (ws' := [(h0, .inr (5, [.int t_p, .int t_a, .int t_b, .ref h0_inverses, .ref h0_roots, .int t_rooted, .ref h0_points, .int t_pointMany, .ref h0_ahead, .int t_curves, .ref h0_ps, .ref h0_as, .ref h0_bs, .ref h0_from, .ref h0_kernelPoint, .ref h0_kernelOrder, .ref h0_marked, .ref h0_seen]))]) [0] rfl
  have hKc := hK.sub (tys' := []) [] rfl
  refine vp_callSi (W.runV (As := [.int a0]) (rest := []) ⟨hx, hb, hml, hown, hts⟩ (ctX6_has_n l N dC dI  h0 h0_inverses h0_roots h0_points h0_ahead h0_ps h0_as h0_bs h0_from h0_kernelPoint h0_kernelOrder h0_marked h0_seen t_p t_a t_b t_rooted t_pointMany t_curves a0 0 rfl hk0) (cwV 1 hts gX6_count_n_X6_has_n rfl rfl rfl (by decide +kernel) ⟨Nat.le_of_ble_eq_true rfl, Nat.le_of_ble_eq_true rfl⟩) ⟨fun a U g mk q => by obtain ⟨q0, qP, qK, qN⟩ := q; exact ⟨q0, qP, va_K.moved (u := U) (U := U.calling g mk a) (Vm.Alike.refl U.vm) qK, nw_same (u := U) (U := U.calling g mk a) rfl qN⟩, va_recv hKc hPc (ci := 5) (q0 := 0) rfl rfl, fun U hU hW => ⟨rfl, by rw [hU]; exact hPc, va_K.moved hW.alike hKc, nw_warm hW hN⟩⟩ rfl rfl hl.1 rfl (lv_room (Nat.le_of_ble_eq_true rfl)) dX6_count_2 ⟨Nat.le_of_ble_eq_true rfl, Nat.le_of_ble_eq_true rfl⟩) (fun q9 eq9 => ?_)
  subst q9
  refine lv_if_ne (tgt := 11) hx hb dX6_count_5 (by decide) (fun c2 => ?_) (fun c2 => ?_)
  · exact absurd (by decide) c2
  · refine lv_bipush (v := (-2)) hx hb dX6_count_8 (by decide) ?_
    have hv : (-2) = rr := Option.some.inj h
    exact W.iret (v := (-2)) hx hb hr (fun t ht hW => ⟨_, rfl, hv, ht⟩) (fun q hq => absurd hq List.not_mem_nil) dX6_count_10
def wsX6_countOver_n : List Cond := .code yX6_countOver cX6_countOver 14 (some .long) :: (([.constantLong RX6 154 (-2)] : List Cond) ++ ((wsV RX6 132 RX6 yX6_has wsX6_has_n)))
set_option maxRecDepth 20000 in
theorem gX6_countOver_n_X6_has_n : GoodIn wsX6_countOver_n (wsV RX6 132 RX6 yX6_has wsX6_has_n) := goodIn_sub (fun w h => List.mem_cons_of_mem _ (List.mem_append_right _ (h))) (by decide +kernel)
def mX6_countOver_n (N : Nat) (a0 : Int32) (a1 : Int32) : Option (Int64) := some (-2)
abbrev rmX6_countOver_n : Room := { frames := 2, cells := 0, slots := 0, locals := 46 }
set_option maxHeartbeats 4000000 in
set_option maxRecDepth 100000 in
theorem ctX6_countOver_n (l : Launch) (N : Nat) (dC : Nat → ClassId) (dI : Nat → Nat → Nat) (h0 : Nat) (h0_inverses : Nat) (h0_roots : Nat) (h0_points : Nat) (h0_ahead : Nat) (h0_ps : Nat) (h0_as : Nat) (h0_bs : Nat) (h0_from : Nat) (h0_kernelPoint : Nat) (h0_kernelOrder : Nat) (h0_marked : Nat) (h0_seen : Nat) (t_p : Int32) (t_a : Int32) (t_b : Int32) (t_rooted : Int32) (t_pointMany : Int32) (t_curves : Int32) (a0 : Int32) (a1 : Int32) (rr : Int64) (h : mX6_countOver_n N a0 a1 = some rr) (hk0 : mX6_in N a0.toInt64 0 ((t_curves - 1).toInt64) = some 0) : Met l yX6_countOver wsX6_countOver_n rmX6_countOver_n (va_Pc [.ref h0, .int a0, .int a1] (fun U => va_P (dC, dI) vwCl [(h0, .inr (5, [.int t_p, .int t_a, .int t_b, .ref h0_inverses, .ref h0_roots, .int t_rooted, .ref h0_points, .int t_pointMany, .ref h0_ahead, .int t_curves, .ref h0_ps, .ref h0_as, .ref h0_bs, .ref h0_from, .ref h0_kernelPoint, .ref h0_kernelOrder, .ref h0_marked, .ref h0_seen]))] U.heap ∧ va_K (dC, dI) vwCl [] U ∧ nw_all U)) (vp_Sl (fun r => r = rr)) 0 0 (fun _ => False) := by
  refine Met.ofW (cc := cX6_countOver) (maxL := 14) (ret := (some .long)) (by decide) rfl ?_
  intro p e s m args below meth c s₁ B hml hv
  obtain ⟨rfl, hP, hK, hN⟩ := hv
  have hx := B.exec
  have hb := B.bytes
  have hr := B.returns
  have hts := atoms_spec (ws := wsX6_countOver_n) B.pre
  have hown : s.vm.findClass RX6 = some m.cls := findClass_of_methodNamed B.named
  have hlocks := B.notSynchronized
  have hl := lv_entry ([.ref h0, .int a0, .int a1]) (n := 14) (Nat.le_of_ble_eq_true rfl)
  rw [lg_entry_eq]
  generalize (lg_sl ([.ref h0, .int a0, .int a1]) ++ List.replicate (14 - (lg_sl ([.ref h0, .int a0, .int a1])).length) Slot.unset).toArray = ls at hl ⊢
  have hl : lv_has ls 14 [(0, .ref h0), (1, .int a0), (2, .int a1)] := hl
  dsimp only [mX6_countOver_n] at h
  refine lv_aload_n hx hb dX6_countOver_0 rfl (lv_at hl 0 rfl) ?_
  refine lv_iload_n hx hb dX6_countOver_1 rfl (lv_at hl 1 rfl) ?_
  have hPc := hP.sub (ws' := [(h0, .inr (5, [.int t_p, .int t_a, .int t_b, .ref h0_inverses, .ref h0_roots, .int t_rooted, .ref h0_points, .int t_pointMany, .ref h0_ahead, .int t_curves, .ref h0_ps, .ref h0_as, .ref h0_bs, .ref h0_from, .ref h0_kernelPoint, .ref h0_kernelOrder, .ref h0_marked, .ref h0_seen]))]) [0] rfl
  have hKc := hK.sub (tys' := []) [] rfl
  refine vp_callSi (W.runV (As := [.int a0]) (rest := []) ⟨hx, hb, hml, hown, hts⟩ (ctX6_has_n l N dC dI  h0 h0_inverses h0_roots h0_points h0_ahead h0_ps h0_as h0_bs h0_from h0_kernelPoint h0_kernelOrder h0_marked h0_seen t_p t_a t_b t_rooted t_pointMany t_curves a0 0 rfl hk0) (cwV 1 hts gX6_countOver_n_X6_has_n rfl rfl rfl (by decide +kernel) ⟨Nat.le_of_ble_eq_true rfl, Nat.le_of_ble_eq_true rfl⟩) ⟨fun a U g mk q => by obtain ⟨q0, qP, qK, qN⟩ := q; exact ⟨q0, qP, va_K.moved (u := U) (U := U.calling g mk a) (Vm.Alike.refl U.vm) qK, nw_same (u := U) (U := U.calling g mk a) rfl qN⟩, va_recv hKc hPc (ci := 5) (q0 := 0) rfl rfl, fun U hU hW => ⟨rfl, by rw [hU]; exact hPc, va_K.moved hW.alike hKc, nw_warm hW hN⟩⟩ rfl rfl hl.1 rfl (lv_room (Nat.le_of_ble_eq_true rfl)) dX6_countOver_2 ⟨Nat.le_of_ble_eq_true rfl, Nat.le_of_ble_eq_true rfl⟩) (fun q9 eq9 => ?_)
  subst q9
  refine lv_if_eq (tgt := 20) hx hb dX6_countOver_5 (by decide) (fun c2 => ?_) (fun c2 => ?_)
  · refine lv_ldc2 (v := (-2)) hx hb hown (hts (.constantLong RX6 154 (-2)) (by decide +kernel)) dX6_countOver_20 ?_
    have hv : (-2) = rr := Option.some.inj h
    exact W.lret (v := (-2)) hx hb hr (fun t ht hW => ⟨_, rfl, hv, ht⟩) (fun q hq => absurd hq List.not_mem_nil) dX6_countOver_23
  · exact absurd (by decide) c2
def wsX6_bound_n : List Cond := .code yX6_bound cX6_bound 3 (some .int) :: (([] : List Cond) ++ ((wsV RX6 132 RX6 yX6_has wsX6_has_n)))
set_option maxRecDepth 20000 in
theorem gX6_bound_n_X6_has_n : GoodIn wsX6_bound_n (wsV RX6 132 RX6 yX6_has wsX6_has_n) := goodIn_sub (fun w h => List.mem_cons_of_mem _ (List.mem_append_right _ (h))) (by decide +kernel)
def mX6_bound_n (N : Nat) (a0 : Int32) (a1 : Int32) : Option (Int32) := some (-2)
abbrev rmX6_bound_n : Room := { frames := 2, cells := 0, slots := 0, locals := 46 }
set_option maxHeartbeats 4000000 in
set_option maxRecDepth 100000 in
theorem ctX6_bound_n (l : Launch) (N : Nat) (dC : Nat → ClassId) (dI : Nat → Nat → Nat) (h0 : Nat) (h0_inverses : Nat) (h0_roots : Nat) (h0_points : Nat) (h0_ahead : Nat) (h0_ps : Nat) (h0_as : Nat) (h0_bs : Nat) (h0_from : Nat) (h0_kernelPoint : Nat) (h0_kernelOrder : Nat) (h0_marked : Nat) (h0_seen : Nat) (t_p : Int32) (t_a : Int32) (t_b : Int32) (t_rooted : Int32) (t_pointMany : Int32) (t_curves : Int32) (a0 : Int32) (a1 : Int32) (rr : Int32) (h : mX6_bound_n N a0 a1 = some rr) (hk0 : mX6_in N a0.toInt64 0 ((t_curves - 1).toInt64) = some 0) : Met l yX6_bound wsX6_bound_n rmX6_bound_n (va_Pc [.ref h0, .int a0, .int a1] (fun U => va_P (dC, dI) vwCl [(h0, .inr (5, [.int t_p, .int t_a, .int t_b, .ref h0_inverses, .ref h0_roots, .int t_rooted, .ref h0_points, .int t_pointMany, .ref h0_ahead, .int t_curves, .ref h0_ps, .ref h0_as, .ref h0_bs, .ref h0_from, .ref h0_kernelPoint, .ref h0_kernelOrder, .ref h0_marked, .ref h0_seen]))] U.heap ∧ va_K (dC, dI) vwCl [] U ∧ nw_all U)) (vp_Si (fun r => r = rr)) 0 0 (fun _ => False) := by
  refine Met.ofW (cc := cX6_bound) (maxL := 3) (ret := (some .int)) (by decide) rfl ?_
  intro p e s m args below meth c s₁ B hml hv
  obtain ⟨rfl, hP, hK, hN⟩ := hv
  have hx := B.exec
  have hb := B.bytes
  have hr := B.returns
  have hts := atoms_spec (ws := wsX6_bound_n) B.pre
  have hown : s.vm.findClass RX6 = some m.cls := findClass_of_methodNamed B.named
  have hlocks := B.notSynchronized
  have hl := lv_entry ([.ref h0, .int a0, .int a1]) (n := 3) (Nat.le_of_ble_eq_true rfl)
  rw [lg_entry_eq]
  generalize (lg_sl ([.ref h0, .int a0, .int a1]) ++ List.replicate (3 - (lg_sl ([.ref h0, .int a0, .int a1])).length) Slot.unset).toArray = ls at hl ⊢
  have hl : lv_has ls 3 [(0, .ref h0), (1, .int a0), (2, .int a1)] := hl
  dsimp only [mX6_bound_n] at h
  refine lv_aload_n hx hb dX6_bound_0 rfl (lv_at hl 0 rfl) ?_
  refine lv_iload_n hx hb dX6_bound_1 rfl (lv_at hl 1 rfl) ?_
  have hPc := hP.sub (ws' := [(h0, .inr (5, [.int t_p, .int t_a, .int t_b, .ref h0_inverses, .ref h0_roots, .int t_rooted, .ref h0_points, .int t_pointMany, .ref h0_ahead, .int t_curves, .ref h0_ps, .ref h0_as, .ref h0_bs, .ref h0_from, .ref h0_kernelPoint, .ref h0_kernelOrder, .ref h0_marked, .ref h0_seen]))]) [0] rfl
  have hKc := hK.sub (tys' := []) [] rfl
  refine vp_callSi (W.runV (As := [.int a0]) (rest := []) ⟨hx, hb, hml, hown, hts⟩ (ctX6_has_n l N dC dI  h0 h0_inverses h0_roots h0_points h0_ahead h0_ps h0_as h0_bs h0_from h0_kernelPoint h0_kernelOrder h0_marked h0_seen t_p t_a t_b t_rooted t_pointMany t_curves a0 0 rfl hk0) (cwV 1 hts gX6_bound_n_X6_has_n rfl rfl rfl (by decide +kernel) ⟨Nat.le_of_ble_eq_true rfl, Nat.le_of_ble_eq_true rfl⟩) ⟨fun a U g mk q => by obtain ⟨q0, qP, qK, qN⟩ := q; exact ⟨q0, qP, va_K.moved (u := U) (U := U.calling g mk a) (Vm.Alike.refl U.vm) qK, nw_same (u := U) (U := U.calling g mk a) rfl qN⟩, va_recv hKc hPc (ci := 5) (q0 := 0) rfl rfl, fun U hU hW => ⟨rfl, by rw [hU]; exact hPc, va_K.moved hW.alike hKc, nw_warm hW hN⟩⟩ rfl rfl hl.1 rfl (lv_room (Nat.le_of_ble_eq_true rfl)) dX6_bound_2 ⟨Nat.le_of_ble_eq_true rfl, Nat.le_of_ble_eq_true rfl⟩) (fun q9 eq9 => ?_)
  subst q9
  refine lv_if_eq (tgt := 18) hx hb dX6_bound_5 (by decide) (fun c2 => ?_) (fun c2 => ?_)
  · refine lv_bipush (v := (-2)) hx hb dX6_bound_18 (by decide) ?_
    have hv : (-2) = rr := Option.some.inj h
    exact W.iret (v := (-2)) hx hb hr (fun t ht hW => ⟨_, rfl, hv, ht⟩) (fun q hq => absurd hq List.not_mem_nil) dX6_bound_20
  · exact absurd (by decide) c2
def wsX6_proof_n : List Cond := .code yX6_proof cX6_proof 4 (some .int) :: (([] : List Cond) ++ ((wsV RX6 132 RX6 yX6_has wsX6_has_n)))
set_option maxRecDepth 20000 in
theorem gX6_proof_n_X6_has_n : GoodIn wsX6_proof_n (wsV RX6 132 RX6 yX6_has wsX6_has_n) := goodIn_sub (fun w h => List.mem_cons_of_mem _ (List.mem_append_right _ (h))) (by decide +kernel)
def mX6_proof_n (N : Nat) (a0 : Int32) (a1 : Int32) : Option (Int32) := some (-2)
abbrev rmX6_proof_n : Room := { frames := 2, cells := 0, slots := 0, locals := 46 }
set_option maxHeartbeats 4000000 in
set_option maxRecDepth 100000 in
theorem ctX6_proof_n (l : Launch) (N : Nat) (dC : Nat → ClassId) (dI : Nat → Nat → Nat) (h0 : Nat) (h0_inverses : Nat) (h0_roots : Nat) (h0_points : Nat) (h0_ahead : Nat) (h0_ps : Nat) (h0_as : Nat) (h0_bs : Nat) (h0_from : Nat) (h0_kernelPoint : Nat) (h0_kernelOrder : Nat) (h0_marked : Nat) (h0_seen : Nat) (t_p : Int32) (t_a : Int32) (t_b : Int32) (t_rooted : Int32) (t_pointMany : Int32) (t_curves : Int32) (a0 : Int32) (a1 : Int32) (rr : Int32) (h : mX6_proof_n N a0 a1 = some rr) (hk0 : mX6_in N a0.toInt64 0 ((t_curves - 1).toInt64) = some 0) : Met l yX6_proof wsX6_proof_n rmX6_proof_n (va_Pc [.ref h0, .int a0, .int a1] (fun U => va_P (dC, dI) vwCl [(h0, .inr (5, [.int t_p, .int t_a, .int t_b, .ref h0_inverses, .ref h0_roots, .int t_rooted, .ref h0_points, .int t_pointMany, .ref h0_ahead, .int t_curves, .ref h0_ps, .ref h0_as, .ref h0_bs, .ref h0_from, .ref h0_kernelPoint, .ref h0_kernelOrder, .ref h0_marked, .ref h0_seen]))] U.heap ∧ va_K (dC, dI) vwCl [] U ∧ nw_all U)) (vp_Si (fun r => r = rr)) 0 0 (fun _ => False) := by
  refine Met.ofW (cc := cX6_proof) (maxL := 4) (ret := (some .int)) (by decide) rfl ?_
  intro p e s m args below meth c s₁ B hml hv
  obtain ⟨rfl, hP, hK, hN⟩ := hv
  have hx := B.exec
  have hb := B.bytes
  have hr := B.returns
  have hts := atoms_spec (ws := wsX6_proof_n) B.pre
  have hown : s.vm.findClass RX6 = some m.cls := findClass_of_methodNamed B.named
  have hlocks := B.notSynchronized
  have hl := lv_entry ([.ref h0, .int a0, .int a1]) (n := 4) (Nat.le_of_ble_eq_true rfl)
  rw [lg_entry_eq]
  generalize (lg_sl ([.ref h0, .int a0, .int a1]) ++ List.replicate (4 - (lg_sl ([.ref h0, .int a0, .int a1])).length) Slot.unset).toArray = ls at hl ⊢
  have hl : lv_has ls 4 [(0, .ref h0), (1, .int a0), (2, .int a1)] := hl
  dsimp only [mX6_proof_n] at h
  refine lv_aload_n hx hb dX6_proof_0 rfl (lv_at hl 0 rfl) ?_
  refine lv_iload_n hx hb dX6_proof_1 rfl (lv_at hl 1 rfl) ?_
  have hPc := hP.sub (ws' := [(h0, .inr (5, [.int t_p, .int t_a, .int t_b, .ref h0_inverses, .ref h0_roots, .int t_rooted, .ref h0_points, .int t_pointMany, .ref h0_ahead, .int t_curves, .ref h0_ps, .ref h0_as, .ref h0_bs, .ref h0_from, .ref h0_kernelPoint, .ref h0_kernelOrder, .ref h0_marked, .ref h0_seen]))]) [0] rfl
  have hKc := hK.sub (tys' := []) [] rfl
  refine vp_callSi (W.runV (As := [.int a0]) (rest := []) ⟨hx, hb, hml, hown, hts⟩ (ctX6_has_n l N dC dI  h0 h0_inverses h0_roots h0_points h0_ahead h0_ps h0_as h0_bs h0_from h0_kernelPoint h0_kernelOrder h0_marked h0_seen t_p t_a t_b t_rooted t_pointMany t_curves a0 0 rfl hk0) (cwV 1 hts gX6_proof_n_X6_has_n rfl rfl rfl (by decide +kernel) ⟨Nat.le_of_ble_eq_true rfl, Nat.le_of_ble_eq_true rfl⟩) ⟨fun a U g mk q => by obtain ⟨q0, qP, qK, qN⟩ := q; exact ⟨q0, qP, va_K.moved (u := U) (U := U.calling g mk a) (Vm.Alike.refl U.vm) qK, nw_same (u := U) (U := U.calling g mk a) rfl qN⟩, va_recv hKc hPc (ci := 5) (q0 := 0) rfl rfl, fun U hU hW => ⟨rfl, by rw [hU]; exact hPc, va_K.moved hW.alike hKc, nw_warm hW hN⟩⟩ rfl rfl hl.1 rfl (lv_room (Nat.le_of_ble_eq_true rfl)) dX6_proof_2 ⟨Nat.le_of_ble_eq_true rfl, Nat.le_of_ble_eq_true rfl⟩) (fun q9 eq9 => ?_)
  subst q9
  refine lv_if_eq (tgt := 18) hx hb dX6_proof_5 (by decide) (fun c2 => ?_) (fun c2 => ?_)
  · refine lv_bipush (v := (-2)) hx hb dX6_proof_18 (by decide) ?_
    have hv : (-2) = rr := Option.some.inj h
    exact W.iret (v := (-2)) hx hb hr (fun t ht hW => ⟨_, rfl, hv, ht⟩) (fun q hq => absurd hq List.not_mem_nil) dX6_proof_20
  · exact absurd (by decide) c2
def wsX6_supersingular_n : List Cond := .code yX6_supersingular cX6_supersingular 2 (some .int) :: (([] : List Cond) ++ ((wsV RX6 132 RX6 yX6_has wsX6_has_n)))
set_option maxRecDepth 20000 in
theorem gX6_supersingular_n_X6_has_n : GoodIn wsX6_supersingular_n (wsV RX6 132 RX6 yX6_has wsX6_has_n) := goodIn_sub (fun w h => List.mem_cons_of_mem _ (List.mem_append_right _ (h))) (by decide +kernel)
def mX6_supersingular_n (N : Nat) (a0 : Int32) : Option (Int32) := some (-2)
abbrev rmX6_supersingular_n : Room := { frames := 2, cells := 0, slots := 0, locals := 46 }
set_option maxHeartbeats 4000000 in
set_option maxRecDepth 100000 in
theorem ctX6_supersingular_n (l : Launch) (N : Nat) (dC : Nat → ClassId) (dI : Nat → Nat → Nat) (h0 : Nat) (h0_inverses : Nat) (h0_roots : Nat) (h0_points : Nat) (h0_ahead : Nat) (h0_ps : Nat) (h0_as : Nat) (h0_bs : Nat) (h0_from : Nat) (h0_kernelPoint : Nat) (h0_kernelOrder : Nat) (h0_marked : Nat) (h0_seen : Nat) (t_p : Int32) (t_a : Int32) (t_b : Int32) (t_rooted : Int32) (t_pointMany : Int32) (t_curves : Int32) (a0 : Int32) (rr : Int32) (h : mX6_supersingular_n N a0 = some rr) (hk0 : mX6_in N a0.toInt64 0 ((t_curves - 1).toInt64) = some 0) : Met l yX6_supersingular wsX6_supersingular_n rmX6_supersingular_n (va_Pc [.ref h0, .int a0] (fun U => va_P (dC, dI) vwCl [(h0, .inr (5, [.int t_p, .int t_a, .int t_b, .ref h0_inverses, .ref h0_roots, .int t_rooted, .ref h0_points, .int t_pointMany, .ref h0_ahead, .int t_curves, .ref h0_ps, .ref h0_as, .ref h0_bs, .ref h0_from, .ref h0_kernelPoint, .ref h0_kernelOrder, .ref h0_marked, .ref h0_seen]))] U.heap ∧ va_K (dC, dI) vwCl [] U ∧ nw_all U)) (vp_Si (fun r => r = rr)) 0 0 (fun _ => False) := by
  refine Met.ofW (cc := cX6_supersingular) (maxL := 2) (ret := (some .int)) (by decide) rfl ?_
  intro p e s m args below meth c s₁ B hml hv
  obtain ⟨rfl, hP, hK, hN⟩ := hv
  have hx := B.exec
  have hb := B.bytes
  have hr := B.returns
  have hts := atoms_spec (ws := wsX6_supersingular_n) B.pre
  have hown : s.vm.findClass RX6 = some m.cls := findClass_of_methodNamed B.named
  have hlocks := B.notSynchronized
  have hl := lv_entry ([.ref h0, .int a0]) (n := 2) (Nat.le_of_ble_eq_true rfl)
  rw [lg_entry_eq]
  generalize (lg_sl ([.ref h0, .int a0]) ++ List.replicate (2 - (lg_sl ([.ref h0, .int a0])).length) Slot.unset).toArray = ls at hl ⊢
  have hl : lv_has ls 2 [(0, .ref h0), (1, .int a0)] := hl
  dsimp only [mX6_supersingular_n] at h
  refine lv_aload_n hx hb dX6_supersingular_0 rfl (lv_at hl 0 rfl) ?_
  refine lv_iload_n hx hb dX6_supersingular_1 rfl (lv_at hl 1 rfl) ?_
  have hPc := hP.sub (ws' := [(h0, .inr (5, [.int t_p, .int t_a, .int t_b, .ref h0_inverses, .ref h0_roots, .int t_rooted, .ref h0_points, .int t_pointMany, .ref h0_ahead, .int t_curves, .ref h0_ps, .ref h0_as, .ref h0_bs, .ref h0_from, .ref h0_kernelPoint, .ref h0_kernelOrder, .ref h0_marked, .ref h0_seen]))]) [0] rfl
  have hKc := hK.sub (tys' := []) [] rfl
  refine vp_callSi (W.runV (As := [.int a0]) (rest := []) ⟨hx, hb, hml, hown, hts⟩ (ctX6_has_n l N dC dI  h0 h0_inverses h0_roots h0_points h0_ahead h0_ps h0_as h0_bs h0_from h0_kernelPoint h0_kernelOrder h0_marked h0_seen t_p t_a t_b t_rooted t_pointMany t_curves a0 0 rfl hk0) (cwV 1 hts gX6_supersingular_n_X6_has_n rfl rfl rfl (by decide +kernel) ⟨Nat.le_of_ble_eq_true rfl, Nat.le_of_ble_eq_true rfl⟩) ⟨fun a U g mk q => by obtain ⟨q0, qP, qK, qN⟩ := q; exact ⟨q0, qP, va_K.moved (u := U) (U := U.calling g mk a) (Vm.Alike.refl U.vm) qK, nw_same (u := U) (U := U.calling g mk a) rfl qN⟩, va_recv hKc hPc (ci := 5) (q0 := 0) rfl rfl, fun U hU hW => ⟨rfl, by rw [hU]; exact hPc, va_K.moved hW.alike hKc, nw_warm hW hN⟩⟩ rfl rfl hl.1 rfl (lv_room (Nat.le_of_ble_eq_true rfl)) dX6_supersingular_2 ⟨Nat.le_of_ble_eq_true rfl, Nat.le_of_ble_eq_true rfl⟩) (fun q9 eq9 => ?_)
  subst q9
  refine lv_if_ne (tgt := 11) hx hb dX6_supersingular_5 (by decide) (fun c2 => ?_) (fun c2 => ?_)
  · exact absurd (by decide) c2
  · refine lv_bipush (v := (-2)) hx hb dX6_supersingular_8 (by decide) ?_
    have hv : (-2) = rr := Option.some.inj h
    exact W.iret (v := (-2)) hx hb hr (fun t ht hW => ⟨_, rfl, hv, ht⟩) (fun q hq => absurd hq List.not_mem_nil) dX6_supersingular_10
def wsX6_order_n : List Cond := .code yX6_order cX6_order 3 (some .int) :: (([] : List Cond) ++ ((wsV RX6 132 RX6 yX6_has wsX6_has_n)))
set_option maxRecDepth 20000 in
theorem gX6_order_n_X6_has_n : GoodIn wsX6_order_n (wsV RX6 132 RX6 yX6_has wsX6_has_n) := goodIn_sub (fun w h => List.mem_cons_of_mem _ (List.mem_append_right _ (h))) (by decide +kernel)
def mX6_order_n (N : Nat) (a0 : Int32) (a1 : Int32) : Option (Int32) := some (-2)
abbrev rmX6_order_n : Room := { frames := 2, cells := 0, slots := 0, locals := 46 }
set_option maxHeartbeats 4000000 in
set_option maxRecDepth 100000 in
theorem ctX6_order_n (l : Launch) (N : Nat) (dC : Nat → ClassId) (dI : Nat → Nat → Nat) (h0 : Nat) (h0_inverses : Nat) (h0_roots : Nat) (h0_points : Nat) (h0_ahead : Nat) (h0_ps : Nat) (h0_as : Nat) (h0_bs : Nat) (h0_from : Nat) (h0_kernelPoint : Nat) (h0_kernelOrder : Nat) (h0_marked : Nat) (h0_seen : Nat) (t_p : Int32) (t_a : Int32) (t_b : Int32) (t_rooted : Int32) (t_pointMany : Int32) (t_curves : Int32) (a0 : Int32) (a1 : Int32) (rr : Int32) (h : mX6_order_n N a0 a1 = some rr) (hk0 : mX6_in N a0.toInt64 0 ((t_curves - 1).toInt64) = some 0) : Met l yX6_order wsX6_order_n rmX6_order_n (va_Pc [.ref h0, .int a0, .int a1] (fun U => va_P (dC, dI) vwCl [(h0, .inr (5, [.int t_p, .int t_a, .int t_b, .ref h0_inverses, .ref h0_roots, .int t_rooted, .ref h0_points, .int t_pointMany, .ref h0_ahead, .int t_curves, .ref h0_ps, .ref h0_as, .ref h0_bs, .ref h0_from, .ref h0_kernelPoint, .ref h0_kernelOrder, .ref h0_marked, .ref h0_seen]))] U.heap ∧ va_K (dC, dI) vwCl [] U ∧ nw_all U)) (vp_Si (fun r => r = rr)) 0 0 (fun _ => False) := by
  refine Met.ofW (cc := cX6_order) (maxL := 3) (ret := (some .int)) (by decide) rfl ?_
  intro p e s m args below meth c s₁ B hml hv
  obtain ⟨rfl, hP, hK, hN⟩ := hv
  have hx := B.exec
  have hb := B.bytes
  have hr := B.returns
  have hts := atoms_spec (ws := wsX6_order_n) B.pre
  have hown : s.vm.findClass RX6 = some m.cls := findClass_of_methodNamed B.named
  have hlocks := B.notSynchronized
  have hl := lv_entry ([.ref h0, .int a0, .int a1]) (n := 3) (Nat.le_of_ble_eq_true rfl)
  rw [lg_entry_eq]
  generalize (lg_sl ([.ref h0, .int a0, .int a1]) ++ List.replicate (3 - (lg_sl ([.ref h0, .int a0, .int a1])).length) Slot.unset).toArray = ls at hl ⊢
  have hl : lv_has ls 3 [(0, .ref h0), (1, .int a0), (2, .int a1)] := hl
  dsimp only [mX6_order_n] at h
  refine lv_aload_n hx hb dX6_order_0 rfl (lv_at hl 0 rfl) ?_
  refine lv_iload_n hx hb dX6_order_1 rfl (lv_at hl 1 rfl) ?_
  have hPc := hP.sub (ws' := [(h0, .inr (5, [.int t_p, .int t_a, .int t_b, .ref h0_inverses, .ref h0_roots, .int t_rooted, .ref h0_points, .int t_pointMany, .ref h0_ahead, .int t_curves, .ref h0_ps, .ref h0_as, .ref h0_bs, .ref h0_from, .ref h0_kernelPoint, .ref h0_kernelOrder, .ref h0_marked, .ref h0_seen]))]) [0] rfl
  have hKc := hK.sub (tys' := []) [] rfl
  refine vp_callSi (W.runV (As := [.int a0]) (rest := []) ⟨hx, hb, hml, hown, hts⟩ (ctX6_has_n l N dC dI  h0 h0_inverses h0_roots h0_points h0_ahead h0_ps h0_as h0_bs h0_from h0_kernelPoint h0_kernelOrder h0_marked h0_seen t_p t_a t_b t_rooted t_pointMany t_curves a0 0 rfl hk0) (cwV 1 hts gX6_order_n_X6_has_n rfl rfl rfl (by decide +kernel) ⟨Nat.le_of_ble_eq_true rfl, Nat.le_of_ble_eq_true rfl⟩) ⟨fun a U g mk q => by obtain ⟨q0, qP, qK, qN⟩ := q; exact ⟨q0, qP, va_K.moved (u := U) (U := U.calling g mk a) (Vm.Alike.refl U.vm) qK, nw_same (u := U) (U := U.calling g mk a) rfl qN⟩, va_recv hKc hPc (ci := 5) (q0 := 0) rfl rfl, fun U hU hW => ⟨rfl, by rw [hU]; exact hPc, va_K.moved hW.alike hKc, nw_warm hW hN⟩⟩ rfl rfl hl.1 rfl (lv_room (Nat.le_of_ble_eq_true rfl)) dX6_order_2 ⟨Nat.le_of_ble_eq_true rfl, Nat.le_of_ble_eq_true rfl⟩) (fun q9 eq9 => ?_)
  subst q9
  refine lv_if_eq (tgt := 24) hx hb dX6_order_5 (by decide) (fun c2 => ?_) (fun c2 => ?_)
  · refine lv_bipush (v := (-2)) hx hb dX6_order_24 (by decide) ?_
    have hv : (-2) = rr := Option.some.inj h
    exact W.iret (v := (-2)) hx hb hr (fun t ht hW => ⟨_, rfl, hv, ht⟩) (fun q hq => absurd hq List.not_mem_nil) dX6_order_26
  · exact absurd (by decide) c2
def wsX6_ofOrder_n : List Cond := .code yX6_ofOrder cX6_ofOrder 5 (some .int) :: (([] : List Cond) ++ ((wsV RX6 132 RX6 yX6_has wsX6_has_n)))
set_option maxRecDepth 20000 in
theorem gX6_ofOrder_n_X6_has_n : GoodIn wsX6_ofOrder_n (wsV RX6 132 RX6 yX6_has wsX6_has_n) := goodIn_sub (fun w h => List.mem_cons_of_mem _ (List.mem_append_right _ (h))) (by decide +kernel)
def mX6_ofOrder_n (N : Nat) (a0 : Int32) (a1 : Int32) : Option (Int32) := some (-2)
abbrev rmX6_ofOrder_n : Room := { frames := 2, cells := 0, slots := 0, locals := 46 }
set_option maxHeartbeats 4000000 in
set_option maxRecDepth 100000 in
theorem ctX6_ofOrder_n (l : Launch) (N : Nat) (dC : Nat → ClassId) (dI : Nat → Nat → Nat) (h0 : Nat) (h0_inverses : Nat) (h0_roots : Nat) (h0_points : Nat) (h0_ahead : Nat) (h0_ps : Nat) (h0_as : Nat) (h0_bs : Nat) (h0_from : Nat) (h0_kernelPoint : Nat) (h0_kernelOrder : Nat) (h0_marked : Nat) (h0_seen : Nat) (t_p : Int32) (t_a : Int32) (t_b : Int32) (t_rooted : Int32) (t_pointMany : Int32) (t_curves : Int32) (a0 : Int32) (a1 : Int32) (rr : Int32) (h : mX6_ofOrder_n N a0 a1 = some rr) (hk0 : mX6_in N a0.toInt64 0 ((t_curves - 1).toInt64) = some 0) : Met l yX6_ofOrder wsX6_ofOrder_n rmX6_ofOrder_n (va_Pc [.ref h0, .int a0, .int a1] (fun U => va_P (dC, dI) vwCl [(h0, .inr (5, [.int t_p, .int t_a, .int t_b, .ref h0_inverses, .ref h0_roots, .int t_rooted, .ref h0_points, .int t_pointMany, .ref h0_ahead, .int t_curves, .ref h0_ps, .ref h0_as, .ref h0_bs, .ref h0_from, .ref h0_kernelPoint, .ref h0_kernelOrder, .ref h0_marked, .ref h0_seen]))] U.heap ∧ va_K (dC, dI) vwCl [] U ∧ nw_all U)) (vp_Si (fun r => r = rr)) 0 0 (fun _ => False) := by
  refine Met.ofW (cc := cX6_ofOrder) (maxL := 5) (ret := (some .int)) (by decide) rfl ?_
  intro p e s m args below meth c s₁ B hml hv
  obtain ⟨rfl, hP, hK, hN⟩ := hv
  have hx := B.exec
  have hb := B.bytes
  have hr := B.returns
  have hts := atoms_spec (ws := wsX6_ofOrder_n) B.pre
  have hown : s.vm.findClass RX6 = some m.cls := findClass_of_methodNamed B.named
  have hlocks := B.notSynchronized
  have hl := lv_entry ([.ref h0, .int a0, .int a1]) (n := 5) (Nat.le_of_ble_eq_true rfl)
  rw [lg_entry_eq]
  generalize (lg_sl ([.ref h0, .int a0, .int a1]) ++ List.replicate (5 - (lg_sl ([.ref h0, .int a0, .int a1])).length) Slot.unset).toArray = ls at hl ⊢
  have hl : lv_has ls 5 [(0, .ref h0), (1, .int a0), (2, .int a1)] := hl
  dsimp only [mX6_ofOrder_n] at h
  refine lv_aload_n hx hb dX6_ofOrder_0 rfl (lv_at hl 0 rfl) ?_
  refine lv_iload_n hx hb dX6_ofOrder_1 rfl (lv_at hl 1 rfl) ?_
  have hPc := hP.sub (ws' := [(h0, .inr (5, [.int t_p, .int t_a, .int t_b, .ref h0_inverses, .ref h0_roots, .int t_rooted, .ref h0_points, .int t_pointMany, .ref h0_ahead, .int t_curves, .ref h0_ps, .ref h0_as, .ref h0_bs, .ref h0_from, .ref h0_kernelPoint, .ref h0_kernelOrder, .ref h0_marked, .ref h0_seen]))]) [0] rfl
  have hKc := hK.sub (tys' := []) [] rfl
  refine vp_callSi (W.runV (As := [.int a0]) (rest := []) ⟨hx, hb, hml, hown, hts⟩ (ctX6_has_n l N dC dI  h0 h0_inverses h0_roots h0_points h0_ahead h0_ps h0_as h0_bs h0_from h0_kernelPoint h0_kernelOrder h0_marked h0_seen t_p t_a t_b t_rooted t_pointMany t_curves a0 0 rfl hk0) (cwV 1 hts gX6_ofOrder_n_X6_has_n rfl rfl rfl (by decide +kernel) ⟨Nat.le_of_ble_eq_true rfl, Nat.le_of_ble_eq_true rfl⟩) ⟨fun a U g mk q => by obtain ⟨q0, qP, qK, qN⟩ := q; exact ⟨q0, qP, va_K.moved (u := U) (U := U.calling g mk a) (Vm.Alike.refl U.vm) qK, nw_same (u := U) (U := U.calling g mk a) rfl qN⟩, va_recv hKc hPc (ci := 5) (q0 := 0) rfl rfl, fun U hU hW => ⟨rfl, by rw [hU]; exact hPc, va_K.moved hW.alike hKc, nw_warm hW hN⟩⟩ rfl rfl hl.1 rfl (lv_room (Nat.le_of_ble_eq_true rfl)) dX6_ofOrder_2 ⟨Nat.le_of_ble_eq_true rfl, Nat.le_of_ble_eq_true rfl⟩) (fun q9 eq9 => ?_)
  subst q9
  refine lv_if_eq (tgt := 13) hx hb dX6_ofOrder_5 (by decide) (fun c2 => ?_) (fun c2 => ?_)
  · refine lv_bipush (v := (-2)) hx hb dX6_ofOrder_13 (by decide) ?_
    have hv : (-2) = rr := Option.some.inj h
    exact W.iret (v := (-2)) hx hb hr (fun t ht hW => ⟨_, rfl, hv, ht⟩) (fun q hq => absurd hq List.not_mem_nil) dX6_ofOrder_15
  · exact absurd (by decide) c2
def wsX6_torsion_n : List Cond := .code yX6_torsion cX6_torsion 5 (some .int) :: (([] : List Cond) ++ ((wsV RX6 132 RX6 yX6_has wsX6_has_n)))
set_option maxRecDepth 20000 in
theorem gX6_torsion_n_X6_has_n : GoodIn wsX6_torsion_n (wsV RX6 132 RX6 yX6_has wsX6_has_n) := goodIn_sub (fun w h => List.mem_cons_of_mem _ (List.mem_append_right _ (h))) (by decide +kernel)
def mX6_torsion_n (N : Nat) (a0 : Int32) (a1 : Int32) : Option (Int32) := some (-2)
abbrev rmX6_torsion_n : Room := { frames := 2, cells := 0, slots := 0, locals := 46 }
set_option maxHeartbeats 4000000 in
set_option maxRecDepth 100000 in
theorem ctX6_torsion_n (l : Launch) (N : Nat) (dC : Nat → ClassId) (dI : Nat → Nat → Nat) (h0 : Nat) (h0_inverses : Nat) (h0_roots : Nat) (h0_points : Nat) (h0_ahead : Nat) (h0_ps : Nat) (h0_as : Nat) (h0_bs : Nat) (h0_from : Nat) (h0_kernelPoint : Nat) (h0_kernelOrder : Nat) (h0_marked : Nat) (h0_seen : Nat) (t_p : Int32) (t_a : Int32) (t_b : Int32) (t_rooted : Int32) (t_pointMany : Int32) (t_curves : Int32) (a0 : Int32) (a1 : Int32) (rr : Int32) (h : mX6_torsion_n N a0 a1 = some rr) (hk0 : mX6_in N a0.toInt64 0 ((t_curves - 1).toInt64) = some 0) : Met l yX6_torsion wsX6_torsion_n rmX6_torsion_n (va_Pc [.ref h0, .int a0, .int a1] (fun U => va_P (dC, dI) vwCl [(h0, .inr (5, [.int t_p, .int t_a, .int t_b, .ref h0_inverses, .ref h0_roots, .int t_rooted, .ref h0_points, .int t_pointMany, .ref h0_ahead, .int t_curves, .ref h0_ps, .ref h0_as, .ref h0_bs, .ref h0_from, .ref h0_kernelPoint, .ref h0_kernelOrder, .ref h0_marked, .ref h0_seen]))] U.heap ∧ va_K (dC, dI) vwCl [] U ∧ nw_all U)) (vp_Si (fun r => r = rr)) 0 0 (fun _ => False) := by
  refine Met.ofW (cc := cX6_torsion) (maxL := 5) (ret := (some .int)) (by decide) rfl ?_
  intro p e s m args below meth c s₁ B hml hv
  obtain ⟨rfl, hP, hK, hN⟩ := hv
  have hx := B.exec
  have hb := B.bytes
  have hr := B.returns
  have hts := atoms_spec (ws := wsX6_torsion_n) B.pre
  have hown : s.vm.findClass RX6 = some m.cls := findClass_of_methodNamed B.named
  have hlocks := B.notSynchronized
  have hl := lv_entry ([.ref h0, .int a0, .int a1]) (n := 5) (Nat.le_of_ble_eq_true rfl)
  rw [lg_entry_eq]
  generalize (lg_sl ([.ref h0, .int a0, .int a1]) ++ List.replicate (5 - (lg_sl ([.ref h0, .int a0, .int a1])).length) Slot.unset).toArray = ls at hl ⊢
  have hl : lv_has ls 5 [(0, .ref h0), (1, .int a0), (2, .int a1)] := hl
  dsimp only [mX6_torsion_n] at h
  refine lv_aload_n hx hb dX6_torsion_0 rfl (lv_at hl 0 rfl) ?_
  refine lv_iload_n hx hb dX6_torsion_1 rfl (lv_at hl 1 rfl) ?_
  have hPc := hP.sub (ws' := [(h0, .inr (5, [.int t_p, .int t_a, .int t_b, .ref h0_inverses, .ref h0_roots, .int t_rooted, .ref h0_points, .int t_pointMany, .ref h0_ahead, .int t_curves, .ref h0_ps, .ref h0_as, .ref h0_bs, .ref h0_from, .ref h0_kernelPoint, .ref h0_kernelOrder, .ref h0_marked, .ref h0_seen]))]) [0] rfl
  have hKc := hK.sub (tys' := []) [] rfl
  refine vp_callSi (W.runV (As := [.int a0]) (rest := []) ⟨hx, hb, hml, hown, hts⟩ (ctX6_has_n l N dC dI  h0 h0_inverses h0_roots h0_points h0_ahead h0_ps h0_as h0_bs h0_from h0_kernelPoint h0_kernelOrder h0_marked h0_seen t_p t_a t_b t_rooted t_pointMany t_curves a0 0 rfl hk0) (cwV 1 hts gX6_torsion_n_X6_has_n rfl rfl rfl (by decide +kernel) ⟨Nat.le_of_ble_eq_true rfl, Nat.le_of_ble_eq_true rfl⟩) ⟨fun a U g mk q => by obtain ⟨q0, qP, qK, qN⟩ := q; exact ⟨q0, qP, va_K.moved (u := U) (U := U.calling g mk a) (Vm.Alike.refl U.vm) qK, nw_same (u := U) (U := U.calling g mk a) rfl qN⟩, va_recv hKc hPc (ci := 5) (q0 := 0) rfl rfl, fun U hU hW => ⟨rfl, by rw [hU]; exact hPc, va_K.moved hW.alike hKc, nw_warm hW hN⟩⟩ rfl rfl hl.1 rfl (lv_room (Nat.le_of_ble_eq_true rfl)) dX6_torsion_2 ⟨Nat.le_of_ble_eq_true rfl, Nat.le_of_ble_eq_true rfl⟩) (fun q9 eq9 => ?_)
  subst q9
  refine lv_if_eq (tgt := 13) hx hb dX6_torsion_5 (by decide) (fun c2 => ?_) (fun c2 => ?_)
  · refine lv_bipush (v := (-2)) hx hb dX6_torsion_13 (by decide) ?_
    have hv : (-2) = rr := Option.some.inj h
    exact W.iret (v := (-2)) hx hb hr (fun t ht hW => ⟨_, rfl, hv, ht⟩) (fun q hq => absurd hq List.not_mem_nil) dX6_torsion_15
  · exact absurd (by decide) c2
def wsX6_made_n : List Cond := .code yX6_made cX6_made 8 (some .int) :: (([] : List Cond) ++ ((wsV RX6 132 RX6 yX6_has wsX6_has_n)))
set_option maxRecDepth 20000 in
theorem gX6_made_n_X6_has_n : GoodIn wsX6_made_n (wsV RX6 132 RX6 yX6_has wsX6_has_n) := goodIn_sub (fun w h => List.mem_cons_of_mem _ (List.mem_append_right _ (h))) (by decide +kernel)
def mX6_made_n (N : Nat) (a0 : Int32) (a1 : Int32) : Option (Int32) := some (-2)
abbrev rmX6_made_n : Room := { frames := 2, cells := 0, slots := 0, locals := 46 }
set_option maxHeartbeats 4000000 in
set_option maxRecDepth 100000 in
theorem ctX6_made_n (l : Launch) (N : Nat) (dC : Nat → ClassId) (dI : Nat → Nat → Nat) (h0 : Nat) (h0_inverses : Nat) (h0_roots : Nat) (h0_points : Nat) (h0_ahead : Nat) (h0_ps : Nat) (h0_as : Nat) (h0_bs : Nat) (h0_from : Nat) (h0_kernelPoint : Nat) (h0_kernelOrder : Nat) (h0_marked : Nat) (h0_seen : Nat) (t_p : Int32) (t_a : Int32) (t_b : Int32) (t_rooted : Int32) (t_pointMany : Int32) (t_curves : Int32) (a0 : Int32) (a1 : Int32) (rr : Int32) (h : mX6_made_n N a0 a1 = some rr) (hk0 : mX6_in N a0.toInt64 0 ((t_curves - 1).toInt64) = some 0) : Met l yX6_made wsX6_made_n rmX6_made_n (va_Pc [.ref h0, .int a0, .int a1] (fun U => va_P (dC, dI) vwCl [(h0, .inr (5, [.int t_p, .int t_a, .int t_b, .ref h0_inverses, .ref h0_roots, .int t_rooted, .ref h0_points, .int t_pointMany, .ref h0_ahead, .int t_curves, .ref h0_ps, .ref h0_as, .ref h0_bs, .ref h0_from, .ref h0_kernelPoint, .ref h0_kernelOrder, .ref h0_marked, .ref h0_seen]))] U.heap ∧ va_K (dC, dI) vwCl [] U ∧ nw_all U)) (vp_Si (fun r => r = rr)) 0 0 (fun _ => False) := by
  refine Met.ofW (cc := cX6_made) (maxL := 8) (ret := (some .int)) (by decide) rfl ?_
  intro p e s m args below meth c s₁ B hml hv
  obtain ⟨rfl, hP, hK, hN⟩ := hv
  have hx := B.exec
  have hb := B.bytes
  have hr := B.returns
  have hts := atoms_spec (ws := wsX6_made_n) B.pre
  have hown : s.vm.findClass RX6 = some m.cls := findClass_of_methodNamed B.named
  have hlocks := B.notSynchronized
  have hl := lv_entry ([.ref h0, .int a0, .int a1]) (n := 8) (Nat.le_of_ble_eq_true rfl)
  rw [lg_entry_eq]
  generalize (lg_sl ([.ref h0, .int a0, .int a1]) ++ List.replicate (8 - (lg_sl ([.ref h0, .int a0, .int a1])).length) Slot.unset).toArray = ls at hl ⊢
  have hl : lv_has ls 8 [(0, .ref h0), (1, .int a0), (2, .int a1)] := hl
  dsimp only [mX6_made_n] at h
  refine lv_aload_n hx hb dX6_made_0 rfl (lv_at hl 0 rfl) ?_
  refine lv_iload_n hx hb dX6_made_1 rfl (lv_at hl 1 rfl) ?_
  have hPc := hP.sub (ws' := [(h0, .inr (5, [.int t_p, .int t_a, .int t_b, .ref h0_inverses, .ref h0_roots, .int t_rooted, .ref h0_points, .int t_pointMany, .ref h0_ahead, .int t_curves, .ref h0_ps, .ref h0_as, .ref h0_bs, .ref h0_from, .ref h0_kernelPoint, .ref h0_kernelOrder, .ref h0_marked, .ref h0_seen]))]) [0] rfl
  have hKc := hK.sub (tys' := []) [] rfl
  refine vp_callSi (W.runV (As := [.int a0]) (rest := []) ⟨hx, hb, hml, hown, hts⟩ (ctX6_has_n l N dC dI  h0 h0_inverses h0_roots h0_points h0_ahead h0_ps h0_as h0_bs h0_from h0_kernelPoint h0_kernelOrder h0_marked h0_seen t_p t_a t_b t_rooted t_pointMany t_curves a0 0 rfl hk0) (cwV 1 hts gX6_made_n_X6_has_n rfl rfl rfl (by decide +kernel) ⟨Nat.le_of_ble_eq_true rfl, Nat.le_of_ble_eq_true rfl⟩) ⟨fun a U g mk q => by obtain ⟨q0, qP, qK, qN⟩ := q; exact ⟨q0, qP, va_K.moved (u := U) (U := U.calling g mk a) (Vm.Alike.refl U.vm) qK, nw_same (u := U) (U := U.calling g mk a) rfl qN⟩, va_recv hKc hPc (ci := 5) (q0 := 0) rfl rfl, fun U hU hW => ⟨rfl, by rw [hU]; exact hPc, va_K.moved hW.alike hKc, nw_warm hW hN⟩⟩ rfl rfl hl.1 rfl (lv_room (Nat.le_of_ble_eq_true rfl)) dX6_made_2 ⟨Nat.le_of_ble_eq_true rfl, Nat.le_of_ble_eq_true rfl⟩) (fun q9 eq9 => ?_)
  subst q9
  refine lv_if_eq (tgt := 20) hx hb dX6_made_5 (by decide) (fun c2 => ?_) (fun c2 => ?_)
  · refine lv_bipush (v := (-2)) hx hb dX6_made_20 (by decide) ?_
    have hv : (-2) = rr := Option.some.inj h
    exact W.iret (v := (-2)) hx hb hr (fun t ht hW => ⟨_, rfl, hv, ht⟩) (fun q hq => absurd hq List.not_mem_nil) dX6_made_22
  · exact absurd (by decide) c2
def wsX6_halves_n : List Cond := .code yX6_halves cX6_halves 5 (some .int) :: (([] : List Cond) ++ ((wsV RX6 132 RX6 yX6_has wsX6_has_n)))
set_option maxRecDepth 20000 in
theorem gX6_halves_n_X6_has_n : GoodIn wsX6_halves_n (wsV RX6 132 RX6 yX6_has wsX6_has_n) := goodIn_sub (fun w h => List.mem_cons_of_mem _ (List.mem_append_right _ (h))) (by decide +kernel)
def mX6_halves_n (N : Nat) (a0 : Int32) (a1 : Int32) : Option (Int32) := some (-2)
abbrev rmX6_halves_n : Room := { frames := 2, cells := 0, slots := 0, locals := 46 }
set_option maxHeartbeats 4000000 in
set_option maxRecDepth 100000 in
theorem ctX6_halves_n (l : Launch) (N : Nat) (dC : Nat → ClassId) (dI : Nat → Nat → Nat) (h0 : Nat) (h0_inverses : Nat) (h0_roots : Nat) (h0_points : Nat) (h0_ahead : Nat) (h0_ps : Nat) (h0_as : Nat) (h0_bs : Nat) (h0_from : Nat) (h0_kernelPoint : Nat) (h0_kernelOrder : Nat) (h0_marked : Nat) (h0_seen : Nat) (t_p : Int32) (t_a : Int32) (t_b : Int32) (t_rooted : Int32) (t_pointMany : Int32) (t_curves : Int32) (a0 : Int32) (a1 : Int32) (rr : Int32) (h : mX6_halves_n N a0 a1 = some rr) (hk0 : mX6_in N a0.toInt64 0 ((t_curves - 1).toInt64) = some 0) : Met l yX6_halves wsX6_halves_n rmX6_halves_n (va_Pc [.ref h0, .int a0, .int a1] (fun U => va_P (dC, dI) vwCl [(h0, .inr (5, [.int t_p, .int t_a, .int t_b, .ref h0_inverses, .ref h0_roots, .int t_rooted, .ref h0_points, .int t_pointMany, .ref h0_ahead, .int t_curves, .ref h0_ps, .ref h0_as, .ref h0_bs, .ref h0_from, .ref h0_kernelPoint, .ref h0_kernelOrder, .ref h0_marked, .ref h0_seen]))] U.heap ∧ va_K (dC, dI) vwCl [] U ∧ nw_all U)) (vp_Si (fun r => r = rr)) 0 0 (fun _ => False) := by
  refine Met.ofW (cc := cX6_halves) (maxL := 5) (ret := (some .int)) (by decide) rfl ?_
  intro p e s m args below meth c s₁ B hml hv
  obtain ⟨rfl, hP, hK, hN⟩ := hv
  have hx := B.exec
  have hb := B.bytes
  have hr := B.returns
  have hts := atoms_spec (ws := wsX6_halves_n) B.pre
  have hown : s.vm.findClass RX6 = some m.cls := findClass_of_methodNamed B.named
  have hlocks := B.notSynchronized
  have hl := lv_entry ([.ref h0, .int a0, .int a1]) (n := 5) (Nat.le_of_ble_eq_true rfl)
  rw [lg_entry_eq]
  generalize (lg_sl ([.ref h0, .int a0, .int a1]) ++ List.replicate (5 - (lg_sl ([.ref h0, .int a0, .int a1])).length) Slot.unset).toArray = ls at hl ⊢
  have hl : lv_has ls 5 [(0, .ref h0), (1, .int a0), (2, .int a1)] := hl
  dsimp only [mX6_halves_n] at h
  refine lv_aload_n hx hb dX6_halves_0 rfl (lv_at hl 0 rfl) ?_
  refine lv_iload_n hx hb dX6_halves_1 rfl (lv_at hl 1 rfl) ?_
  have hPc := hP.sub (ws' := [(h0, .inr (5, [.int t_p, .int t_a, .int t_b, .ref h0_inverses, .ref h0_roots, .int t_rooted, .ref h0_points, .int t_pointMany, .ref h0_ahead, .int t_curves, .ref h0_ps, .ref h0_as, .ref h0_bs, .ref h0_from, .ref h0_kernelPoint, .ref h0_kernelOrder, .ref h0_marked, .ref h0_seen]))]) [0] rfl
  have hKc := hK.sub (tys' := []) [] rfl
  refine vp_callSi (W.runV (As := [.int a0]) (rest := []) ⟨hx, hb, hml, hown, hts⟩ (ctX6_has_n l N dC dI  h0 h0_inverses h0_roots h0_points h0_ahead h0_ps h0_as h0_bs h0_from h0_kernelPoint h0_kernelOrder h0_marked h0_seen t_p t_a t_b t_rooted t_pointMany t_curves a0 0 rfl hk0) (cwV 1 hts gX6_halves_n_X6_has_n rfl rfl rfl (by decide +kernel) ⟨Nat.le_of_ble_eq_true rfl, Nat.le_of_ble_eq_true rfl⟩) ⟨fun a U g mk q => by obtain ⟨q0, qP, qK, qN⟩ := q; exact ⟨q0, qP, va_K.moved (u := U) (U := U.calling g mk a) (Vm.Alike.refl U.vm) qK, nw_same (u := U) (U := U.calling g mk a) rfl qN⟩, va_recv hKc hPc (ci := 5) (q0 := 0) rfl rfl, fun U hU hW => ⟨rfl, by rw [hU]; exact hPc, va_K.moved hW.alike hKc, nw_warm hW hN⟩⟩ rfl rfl hl.1 rfl (lv_room (Nat.le_of_ble_eq_true rfl)) dX6_halves_2 ⟨Nat.le_of_ble_eq_true rfl, Nat.le_of_ble_eq_true rfl⟩) (fun q9 eq9 => ?_)
  subst q9
  refine lv_if_eq (tgt := 16) hx hb dX6_halves_5 (by decide) (fun c2 => ?_) (fun c2 => ?_)
  · refine lv_bipush (v := (-2)) hx hb dX6_halves_16 (by decide) ?_
    have hv : (-2) = rr := Option.some.inj h
    exact W.iret (v := (-2)) hx hb hr (fun t ht hW => ⟨_, rfl, hv, ht⟩) (fun q hq => absurd hq List.not_mem_nil) dX6_halves_18
  · exact absurd (by decide) c2
def wsX6_half_n : List Cond := .code yX6_half cX6_half 6 (some .int) :: (([] : List Cond) ++ ((wsV RX6 132 RX6 yX6_has wsX6_has_n)))
set_option maxRecDepth 20000 in
theorem gX6_half_n_X6_has_n : GoodIn wsX6_half_n (wsV RX6 132 RX6 yX6_has wsX6_has_n) := goodIn_sub (fun w h => List.mem_cons_of_mem _ (List.mem_append_right _ (h))) (by decide +kernel)
def mX6_half_n (N : Nat) (a0 : Int32) (a1 : Int32) (a2 : Int32) : Option (Int32) := some (-2)
abbrev rmX6_half_n : Room := { frames := 2, cells := 0, slots := 0, locals := 46 }
set_option maxHeartbeats 4000000 in
set_option maxRecDepth 100000 in
theorem ctX6_half_n (l : Launch) (N : Nat) (dC : Nat → ClassId) (dI : Nat → Nat → Nat) (h0 : Nat) (h0_inverses : Nat) (h0_roots : Nat) (h0_points : Nat) (h0_ahead : Nat) (h0_ps : Nat) (h0_as : Nat) (h0_bs : Nat) (h0_from : Nat) (h0_kernelPoint : Nat) (h0_kernelOrder : Nat) (h0_marked : Nat) (h0_seen : Nat) (t_p : Int32) (t_a : Int32) (t_b : Int32) (t_rooted : Int32) (t_pointMany : Int32) (t_curves : Int32) (a0 : Int32) (a1 : Int32) (a2 : Int32) (rr : Int32) (h : mX6_half_n N a0 a1 a2 = some rr) (hk0 : mX6_in N a0.toInt64 0 ((t_curves - 1).toInt64) = some 0) : Met l yX6_half wsX6_half_n rmX6_half_n (va_Pc [.ref h0, .int a0, .int a1, .int a2] (fun U => va_P (dC, dI) vwCl [(h0, .inr (5, [.int t_p, .int t_a, .int t_b, .ref h0_inverses, .ref h0_roots, .int t_rooted, .ref h0_points, .int t_pointMany, .ref h0_ahead, .int t_curves, .ref h0_ps, .ref h0_as, .ref h0_bs, .ref h0_from, .ref h0_kernelPoint, .ref h0_kernelOrder, .ref h0_marked, .ref h0_seen]))] U.heap ∧ va_K (dC, dI) vwCl [] U ∧ nw_all U)) (vp_Si (fun r => r = rr)) 0 0 (fun _ => False) := by
  refine Met.ofW (cc := cX6_half) (maxL := 6) (ret := (some .int)) (by decide) rfl ?_
  intro p e s m args below meth c s₁ B hml hv
  obtain ⟨rfl, hP, hK, hN⟩ := hv
  have hx := B.exec
  have hb := B.bytes
  have hr := B.returns
  have hts := atoms_spec (ws := wsX6_half_n) B.pre
  have hown : s.vm.findClass RX6 = some m.cls := findClass_of_methodNamed B.named
  have hlocks := B.notSynchronized
  have hl := lv_entry ([.ref h0, .int a0, .int a1, .int a2]) (n := 6) (Nat.le_of_ble_eq_true rfl)
  rw [lg_entry_eq]
  generalize (lg_sl ([.ref h0, .int a0, .int a1, .int a2]) ++ List.replicate (6 - (lg_sl ([.ref h0, .int a0, .int a1, .int a2])).length) Slot.unset).toArray = ls at hl ⊢
  have hl : lv_has ls 6 [(0, .ref h0), (1, .int a0), (2, .int a1), (3, .int a2)] := hl
  dsimp only [mX6_half_n] at h
  refine lv_aload_n hx hb dX6_half_0 rfl (lv_at hl 0 rfl) ?_
  refine lv_iload_n hx hb dX6_half_1 rfl (lv_at hl 1 rfl) ?_
  have hPc := hP.sub (ws' := [(h0, .inr (5, [.int t_p, .int t_a, .int t_b, .ref h0_inverses, .ref h0_roots, .int t_rooted, .ref h0_points, .int t_pointMany, .ref h0_ahead, .int t_curves, .ref h0_ps, .ref h0_as, .ref h0_bs, .ref h0_from, .ref h0_kernelPoint, .ref h0_kernelOrder, .ref h0_marked, .ref h0_seen]))]) [0] rfl
  have hKc := hK.sub (tys' := []) [] rfl
  refine vp_callSi (W.runV (As := [.int a0]) (rest := []) ⟨hx, hb, hml, hown, hts⟩ (ctX6_has_n l N dC dI  h0 h0_inverses h0_roots h0_points h0_ahead h0_ps h0_as h0_bs h0_from h0_kernelPoint h0_kernelOrder h0_marked h0_seen t_p t_a t_b t_rooted t_pointMany t_curves a0 0 rfl hk0) (cwV 1 hts gX6_half_n_X6_has_n rfl rfl rfl (by decide +kernel) ⟨Nat.le_of_ble_eq_true rfl, Nat.le_of_ble_eq_true rfl⟩) ⟨fun a U g mk q => by obtain ⟨q0, qP, qK, qN⟩ := q; exact ⟨q0, qP, va_K.moved (u := U) (U := U.calling g mk a) (Vm.Alike.refl U.vm) qK, nw_same (u := U) (U := U.calling g mk a) rfl qN⟩, va_recv hKc hPc (ci := 5) (q0 := 0) rfl rfl, fun U hU hW => ⟨rfl, by rw [hU]; exact hPc, va_K.moved hW.alike hKc, nw_warm hW hN⟩⟩ rfl rfl hl.1 rfl (lv_room (Nat.le_of_ble_eq_true rfl)) dX6_half_2 ⟨Nat.le_of_ble_eq_true rfl, Nat.le_of_ble_eq_true rfl⟩) (fun q9 eq9 => ?_)
  subst q9
  refine lv_if_eq (tgt := 16) hx hb dX6_half_5 (by decide) (fun c2 => ?_) (fun c2 => ?_)
  · refine lv_bipush (v := (-2)) hx hb dX6_half_16 (by decide) ?_
    have hv : (-2) = rr := Option.some.inj h
    exact W.iret (v := (-2)) hx hb hr (fun t ht hW => ⟨_, rfl, hv, ht⟩) (fun q hq => absurd hq List.not_mem_nil) dX6_half_18
  · exact absurd (by decide) c2
def wsX6_log_n : List Cond := .code yX6_log cX6_log 6 (some .int) :: (([] : List Cond) ++ ((wsV RX6 132 RX6 yX6_has wsX6_has_n)))
set_option maxRecDepth 20000 in
theorem gX6_log_n_X6_has_n : GoodIn wsX6_log_n (wsV RX6 132 RX6 yX6_has wsX6_has_n) := goodIn_sub (fun w h => List.mem_cons_of_mem _ (List.mem_append_right _ (h))) (by decide +kernel)
def mX6_log_n (N : Nat) (a0 : Int32) (a1 : Int32) (a2 : Int32) : Option (Int32) := some (-2)
abbrev rmX6_log_n : Room := { frames := 2, cells := 0, slots := 0, locals := 46 }
set_option maxHeartbeats 4000000 in
set_option maxRecDepth 100000 in
theorem ctX6_log_n (l : Launch) (N : Nat) (dC : Nat → ClassId) (dI : Nat → Nat → Nat) (h0 : Nat) (h0_inverses : Nat) (h0_roots : Nat) (h0_points : Nat) (h0_ahead : Nat) (h0_ps : Nat) (h0_as : Nat) (h0_bs : Nat) (h0_from : Nat) (h0_kernelPoint : Nat) (h0_kernelOrder : Nat) (h0_marked : Nat) (h0_seen : Nat) (t_p : Int32) (t_a : Int32) (t_b : Int32) (t_rooted : Int32) (t_pointMany : Int32) (t_curves : Int32) (a0 : Int32) (a1 : Int32) (a2 : Int32) (rr : Int32) (h : mX6_log_n N a0 a1 a2 = some rr) (hk0 : mX6_in N a0.toInt64 0 ((t_curves - 1).toInt64) = some 0) : Met l yX6_log wsX6_log_n rmX6_log_n (va_Pc [.ref h0, .int a0, .int a1, .int a2] (fun U => va_P (dC, dI) vwCl [(h0, .inr (5, [.int t_p, .int t_a, .int t_b, .ref h0_inverses, .ref h0_roots, .int t_rooted, .ref h0_points, .int t_pointMany, .ref h0_ahead, .int t_curves, .ref h0_ps, .ref h0_as, .ref h0_bs, .ref h0_from, .ref h0_kernelPoint, .ref h0_kernelOrder, .ref h0_marked, .ref h0_seen]))] U.heap ∧ va_K (dC, dI) vwCl [] U ∧ nw_all U)) (vp_Si (fun r => r = rr)) 0 0 (fun _ => False) := by
  refine Met.ofW (cc := cX6_log) (maxL := 6) (ret := (some .int)) (by decide) rfl ?_
  intro p e s m args below meth c s₁ B hml hv
  obtain ⟨rfl, hP, hK, hN⟩ := hv
  have hx := B.exec
  have hb := B.bytes
  have hr := B.returns
  have hts := atoms_spec (ws := wsX6_log_n) B.pre
  have hown : s.vm.findClass RX6 = some m.cls := findClass_of_methodNamed B.named
  have hlocks := B.notSynchronized
  have hl := lv_entry ([.ref h0, .int a0, .int a1, .int a2]) (n := 6) (Nat.le_of_ble_eq_true rfl)
  rw [lg_entry_eq]
  generalize (lg_sl ([.ref h0, .int a0, .int a1, .int a2]) ++ List.replicate (6 - (lg_sl ([.ref h0, .int a0, .int a1, .int a2])).length) Slot.unset).toArray = ls at hl ⊢
  have hl : lv_has ls 6 [(0, .ref h0), (1, .int a0), (2, .int a1), (3, .int a2)] := hl
  dsimp only [mX6_log_n] at h
  refine lv_aload_n hx hb dX6_log_0 rfl (lv_at hl 0 rfl) ?_
  refine lv_iload_n hx hb dX6_log_1 rfl (lv_at hl 1 rfl) ?_
  have hPc := hP.sub (ws' := [(h0, .inr (5, [.int t_p, .int t_a, .int t_b, .ref h0_inverses, .ref h0_roots, .int t_rooted, .ref h0_points, .int t_pointMany, .ref h0_ahead, .int t_curves, .ref h0_ps, .ref h0_as, .ref h0_bs, .ref h0_from, .ref h0_kernelPoint, .ref h0_kernelOrder, .ref h0_marked, .ref h0_seen]))]) [0] rfl
  have hKc := hK.sub (tys' := []) [] rfl
  refine vp_callSi (W.runV (As := [.int a0]) (rest := []) ⟨hx, hb, hml, hown, hts⟩ (ctX6_has_n l N dC dI  h0 h0_inverses h0_roots h0_points h0_ahead h0_ps h0_as h0_bs h0_from h0_kernelPoint h0_kernelOrder h0_marked h0_seen t_p t_a t_b t_rooted t_pointMany t_curves a0 0 rfl hk0) (cwV 1 hts gX6_log_n_X6_has_n rfl rfl rfl (by decide +kernel) ⟨Nat.le_of_ble_eq_true rfl, Nat.le_of_ble_eq_true rfl⟩) ⟨fun a U g mk q => by obtain ⟨q0, qP, qK, qN⟩ := q; exact ⟨q0, qP, va_K.moved (u := U) (U := U.calling g mk a) (Vm.Alike.refl U.vm) qK, nw_same (u := U) (U := U.calling g mk a) rfl qN⟩, va_recv hKc hPc (ci := 5) (q0 := 0) rfl rfl, fun U hU hW => ⟨rfl, by rw [hU]; exact hPc, va_K.moved hW.alike hKc, nw_warm hW hN⟩⟩ rfl rfl hl.1 rfl (lv_room (Nat.le_of_ble_eq_true rfl)) dX6_log_2 ⟨Nat.le_of_ble_eq_true rfl, Nat.le_of_ble_eq_true rfl⟩) (fun q9 eq9 => ?_)
  subst q9
  refine lv_if_eq (tgt := 24) hx hb dX6_log_5 (by decide) (fun c2 => ?_) (fun c2 => ?_)
  · refine lv_bipush (v := (-2)) hx hb dX6_log_24 (by decide) ?_
    have hv : (-2) = rr := Option.some.inj h
    exact W.iret (v := (-2)) hx hb hr (fun t ht hW => ⟨_, rfl, hv, ht⟩) (fun q hq => absurd hq List.not_mem_nil) dX6_log_26
  · exact absurd (by decide) c2
def wsX6_embedding_n : List Cond := .code yX6_embedding cX6_embedding 5 (some .int) :: (([] : List Cond) ++ ((wsV RX6 132 RX6 yX6_has wsX6_has_n)))
set_option maxRecDepth 20000 in
theorem gX6_embedding_n_X6_has_n : GoodIn wsX6_embedding_n (wsV RX6 132 RX6 yX6_has wsX6_has_n) := goodIn_sub (fun w h => List.mem_cons_of_mem _ (List.mem_append_right _ (h))) (by decide +kernel)
def mX6_embedding_n (N : Nat) (a0 : Int32) (a1 : Int32) : Option (Int32) := some (-2)
abbrev rmX6_embedding_n : Room := { frames := 2, cells := 0, slots := 0, locals := 46 }
set_option maxHeartbeats 4000000 in
set_option maxRecDepth 100000 in
theorem ctX6_embedding_n (l : Launch) (N : Nat) (dC : Nat → ClassId) (dI : Nat → Nat → Nat) (h0 : Nat) (h0_inverses : Nat) (h0_roots : Nat) (h0_points : Nat) (h0_ahead : Nat) (h0_ps : Nat) (h0_as : Nat) (h0_bs : Nat) (h0_from : Nat) (h0_kernelPoint : Nat) (h0_kernelOrder : Nat) (h0_marked : Nat) (h0_seen : Nat) (t_p : Int32) (t_a : Int32) (t_b : Int32) (t_rooted : Int32) (t_pointMany : Int32) (t_curves : Int32) (a0 : Int32) (a1 : Int32) (rr : Int32) (h : mX6_embedding_n N a0 a1 = some rr) (hk0 : mX6_in N a0.toInt64 0 ((t_curves - 1).toInt64) = some 0) : Met l yX6_embedding wsX6_embedding_n rmX6_embedding_n (va_Pc [.ref h0, .int a0, .int a1] (fun U => va_P (dC, dI) vwCl [(h0, .inr (5, [.int t_p, .int t_a, .int t_b, .ref h0_inverses, .ref h0_roots, .int t_rooted, .ref h0_points, .int t_pointMany, .ref h0_ahead, .int t_curves, .ref h0_ps, .ref h0_as, .ref h0_bs, .ref h0_from, .ref h0_kernelPoint, .ref h0_kernelOrder, .ref h0_marked, .ref h0_seen]))] U.heap ∧ va_K (dC, dI) vwCl [] U ∧ nw_all U)) (vp_Si (fun r => r = rr)) 0 0 (fun _ => False) := by
  refine Met.ofW (cc := cX6_embedding) (maxL := 5) (ret := (some .int)) (by decide) rfl ?_
  intro p e s m args below meth c s₁ B hml hv
  obtain ⟨rfl, hP, hK, hN⟩ := hv
  have hx := B.exec
  have hb := B.bytes
  have hr := B.returns
  have hts := atoms_spec (ws := wsX6_embedding_n) B.pre
  have hown : s.vm.findClass RX6 = some m.cls := findClass_of_methodNamed B.named
  have hlocks := B.notSynchronized
  have hl := lv_entry ([.ref h0, .int a0, .int a1]) (n := 5) (Nat.le_of_ble_eq_true rfl)
  rw [lg_entry_eq]
  generalize (lg_sl ([.ref h0, .int a0, .int a1]) ++ List.replicate (5 - (lg_sl ([.ref h0, .int a0, .int a1])).length) Slot.unset).toArray = ls at hl ⊢
  have hl : lv_has ls 5 [(0, .ref h0), (1, .int a0), (2, .int a1)] := hl
  dsimp only [mX6_embedding_n] at h
  refine lv_aload_n hx hb dX6_embedding_0 rfl (lv_at hl 0 rfl) ?_
  refine lv_iload_n hx hb dX6_embedding_1 rfl (lv_at hl 1 rfl) ?_
  have hPc := hP.sub (ws' := [(h0, .inr (5, [.int t_p, .int t_a, .int t_b, .ref h0_inverses, .ref h0_roots, .int t_rooted, .ref h0_points, .int t_pointMany, .ref h0_ahead, .int t_curves, .ref h0_ps, .ref h0_as, .ref h0_bs, .ref h0_from, .ref h0_kernelPoint, .ref h0_kernelOrder, .ref h0_marked, .ref h0_seen]))]) [0] rfl
  have hKc := hK.sub (tys' := []) [] rfl
  refine vp_callSi (W.runV (As := [.int a0]) (rest := []) ⟨hx, hb, hml, hown, hts⟩ (ctX6_has_n l N dC dI  h0 h0_inverses h0_roots h0_points h0_ahead h0_ps h0_as h0_bs h0_from h0_kernelPoint h0_kernelOrder h0_marked h0_seen t_p t_a t_b t_rooted t_pointMany t_curves a0 0 rfl hk0) (cwV 1 hts gX6_embedding_n_X6_has_n rfl rfl rfl (by decide +kernel) ⟨Nat.le_of_ble_eq_true rfl, Nat.le_of_ble_eq_true rfl⟩) ⟨fun a U g mk q => by obtain ⟨q0, qP, qK, qN⟩ := q; exact ⟨q0, qP, va_K.moved (u := U) (U := U.calling g mk a) (Vm.Alike.refl U.vm) qK, nw_same (u := U) (U := U.calling g mk a) rfl qN⟩, va_recv hKc hPc (ci := 5) (q0 := 0) rfl rfl, fun U hU hW => ⟨rfl, by rw [hU]; exact hPc, va_K.moved hW.alike hKc, nw_warm hW hN⟩⟩ rfl rfl hl.1 rfl (lv_room (Nat.le_of_ble_eq_true rfl)) dX6_embedding_2 ⟨Nat.le_of_ble_eq_true rfl, Nat.le_of_ble_eq_true rfl⟩) (fun q9 eq9 => ?_)
  subst q9
  refine lv_if_eq (tgt := 22) hx hb dX6_embedding_5 (by decide) (fun c2 => ?_) (fun c2 => ?_)
  · refine lv_bipush (v := (-2)) hx hb dX6_embedding_22 (by decide) ?_
    have hv : (-2) = rr := Option.some.inj h
    exact W.iret (v := (-2)) hx hb hr (fun t ht hW => ⟨_, rfl, hv, ht⟩) (fun q hq => absurd hq List.not_mem_nil) dX6_embedding_24
  · exact absurd (by decide) c2
def wsX6_quotient_n : List Cond := .code yX6_quotient cX6_quotient 12 (some .int) :: (([] : List Cond) ++ ((wsV RX6 132 RX6 yX6_has wsX6_has_n)))
set_option maxRecDepth 20000 in
theorem gX6_quotient_n_X6_has_n : GoodIn wsX6_quotient_n (wsV RX6 132 RX6 yX6_has wsX6_has_n) := goodIn_sub (fun w h => List.mem_cons_of_mem _ (List.mem_append_right _ (h))) (by decide +kernel)
def mX6_quotient_n (N : Nat) (a0 : Int32) (a1 : Int32) : Option (Int32) := some (-2)
abbrev rmX6_quotient_n : Room := { frames := 2, cells := 0, slots := 0, locals := 46 }
set_option maxHeartbeats 4000000 in
set_option maxRecDepth 100000 in
theorem ctX6_quotient_n (l : Launch) (N : Nat) (dC : Nat → ClassId) (dI : Nat → Nat → Nat) (h0 : Nat) (h0_inverses : Nat) (h0_roots : Nat) (h0_points : Nat) (h0_ahead : Nat) (h0_ps : Nat) (h0_as : Nat) (h0_bs : Nat) (h0_from : Nat) (h0_kernelPoint : Nat) (h0_kernelOrder : Nat) (h0_marked : Nat) (h0_seen : Nat) (t_p : Int32) (t_a : Int32) (t_b : Int32) (t_rooted : Int32) (t_pointMany : Int32) (t_curves : Int32) (a0 : Int32) (a1 : Int32) (rr : Int32) (h : mX6_quotient_n N a0 a1 = some rr) (hk0 : mX6_in N a0.toInt64 0 ((t_curves - 1).toInt64) = some 0) : Met l yX6_quotient wsX6_quotient_n rmX6_quotient_n (va_Pc [.ref h0, .int a0, .int a1] (fun U => va_P (dC, dI) vwCl [(h0, .inr (5, [.int t_p, .int t_a, .int t_b, .ref h0_inverses, .ref h0_roots, .int t_rooted, .ref h0_points, .int t_pointMany, .ref h0_ahead, .int t_curves, .ref h0_ps, .ref h0_as, .ref h0_bs, .ref h0_from, .ref h0_kernelPoint, .ref h0_kernelOrder, .ref h0_marked, .ref h0_seen]))] U.heap ∧ va_K (dC, dI) vwCl [] U ∧ nw_all U)) (vp_Si (fun r => r = rr)) 0 0 (fun _ => False) := by
  refine Met.ofW (cc := cX6_quotient) (maxL := 12) (ret := (some .int)) (by decide) rfl ?_
  intro p e s m args below meth c s₁ B hml hv
  obtain ⟨rfl, hP, hK, hN⟩ := hv
  have hx := B.exec
  have hb := B.bytes
  have hr := B.returns
  have hts := atoms_spec (ws := wsX6_quotient_n) B.pre
  have hown : s.vm.findClass RX6 = some m.cls := findClass_of_methodNamed B.named
  have hlocks := B.notSynchronized
  have hl := lv_entry ([.ref h0, .int a0, .int a1]) (n := 12) (Nat.le_of_ble_eq_true rfl)
  rw [lg_entry_eq]
  generalize (lg_sl ([.ref h0, .int a0, .int a1]) ++ List.replicate (12 - (lg_sl ([.ref h0, .int a0, .int a1])).length) Slot.unset).toArray = ls at hl ⊢
  have hl : lv_has ls 12 [(0, .ref h0), (1, .int a0), (2, .int a1)] := hl
  dsimp only [mX6_quotient_n] at h
  refine lv_aload_n hx hb dX6_quotient_0 rfl (lv_at hl 0 rfl) ?_
  refine lv_iload_n hx hb dX6_quotient_1 rfl (lv_at hl 1 rfl) ?_
  have hPc := hP.sub (ws' := [(h0, .inr (5, [.int t_p, .int t_a, .int t_b, .ref h0_inverses, .ref h0_roots, .int t_rooted, .ref h0_points, .int t_pointMany, .ref h0_ahead, .int t_curves, .ref h0_ps, .ref h0_as, .ref h0_bs, .ref h0_from, .ref h0_kernelPoint, .ref h0_kernelOrder, .ref h0_marked, .ref h0_seen]))]) [0] rfl
  have hKc := hK.sub (tys' := []) [] rfl
  refine vp_callSi (W.runV (As := [.int a0]) (rest := []) ⟨hx, hb, hml, hown, hts⟩ (ctX6_has_n l N dC dI  h0 h0_inverses h0_roots h0_points h0_ahead h0_ps h0_as h0_bs h0_from h0_kernelPoint h0_kernelOrder h0_marked h0_seen t_p t_a t_b t_rooted t_pointMany t_curves a0 0 rfl hk0) (cwV 1 hts gX6_quotient_n_X6_has_n rfl rfl rfl (by decide +kernel) ⟨Nat.le_of_ble_eq_true rfl, Nat.le_of_ble_eq_true rfl⟩) ⟨fun a U g mk q => by obtain ⟨q0, qP, qK, qN⟩ := q; exact ⟨q0, qP, va_K.moved (u := U) (U := U.calling g mk a) (Vm.Alike.refl U.vm) qK, nw_same (u := U) (U := U.calling g mk a) rfl qN⟩, va_recv hKc hPc (ci := 5) (q0 := 0) rfl rfl, fun U hU hW => ⟨rfl, by rw [hU]; exact hPc, va_K.moved hW.alike hKc, nw_warm hW hN⟩⟩ rfl rfl hl.1 rfl (lv_room (Nat.le_of_ble_eq_true rfl)) dX6_quotient_2 ⟨Nat.le_of_ble_eq_true rfl, Nat.le_of_ble_eq_true rfl⟩) (fun q9 eq9 => ?_)
  subst q9
  refine lv_if_eq (tgt := 16) hx hb dX6_quotient_5 (by decide) (fun c2 => ?_) (fun c2 => ?_)
  · refine lv_bipush (v := (-2)) hx hb dX6_quotient_16 (by decide) ?_
    have hv : (-2) = rr := Option.some.inj h
    exact W.iret (v := (-2)) hx hb hr (fun t ht hW => ⟨_, rfl, hv, ht⟩) (fun q hq => absurd hq List.not_mem_nil) dX6_quotient_18
  · exact absurd (by decide) c2
def wsX6_image_n : List Cond := .code yX6_image cX6_image 10 (some .int) :: (([.fieldLink RX6 112 "PointRingsModel" "curves" "I"] : List Cond) ++ (wsX60 ++ ((va_wsS RX6 100 yX6_in wsX6_in))))
set_option maxRecDepth 20000 in
theorem gX6_image_n_X6_in : GoodIn wsX6_image_n (va_wsS RX6 100 yX6_in wsX6_in) := goodIn_sub (fun w h => List.mem_cons_of_mem _ (List.mem_append_right _ (List.mem_append_right _ (h)))) (by decide +kernel)
def mX6_image_n (N : Nat) (a0 : Int32) (a1 : Int32) : Option (Int32) := some (-2)
abbrev rmX6_image_n : Room := { frames := 1, cells := 0, slots := 0, locals := 25 }
set_option maxHeartbeats 4000000 in
set_option maxRecDepth 100000 in
theorem ctX6_image_n (l : Launch) (N : Nat) (dC : Nat → ClassId) (dI : Nat → Nat → Nat) (h0 : Nat) (h0_inverses : Nat) (h0_roots : Nat) (h0_points : Nat) (h0_ahead : Nat) (h0_ps : Nat) (h0_as : Nat) (h0_bs : Nat) (h0_from : Nat) (h0_kernelPoint : Nat) (h0_kernelOrder : Nat) (h0_marked : Nat) (h0_seen : Nat) (t_p : Int32) (t_a : Int32) (t_b : Int32) (t_rooted : Int32) (t_pointMany : Int32) (t_curves : Int32) (a0 : Int32) (a1 : Int32) (rr : Int32) (h : mX6_image_n N a0 a1 = some rr) (hk0 : mX6_in N a0.toInt64 0 ((t_curves - 1).toInt64) = some 0) : Met l yX6_image wsX6_image_n rmX6_image_n (va_Pc [.ref h0, .int a0, .int a1] (fun U => va_P (dC, dI) vwCl [(h0, .inr (5, [.int t_p, .int t_a, .int t_b, .ref h0_inverses, .ref h0_roots, .int t_rooted, .ref h0_points, .int t_pointMany, .ref h0_ahead, .int t_curves, .ref h0_ps, .ref h0_as, .ref h0_bs, .ref h0_from, .ref h0_kernelPoint, .ref h0_kernelOrder, .ref h0_marked, .ref h0_seen]))] U.heap ∧ va_K (dC, dI) vwCl [] U ∧ nw_all U)) (vp_Si (fun r => r = rr)) 0 0 (fun _ => False) := by
  refine Met.ofW (cc := cX6_image) (maxL := 10) (ret := (some .int)) (by decide) rfl ?_
  intro p e s m args below meth c s₁ B hml hv
  obtain ⟨rfl, hP, hK, hN⟩ := hv
  have hx := B.exec
  have hb := B.bytes
  have hr := B.returns
  have hts := atoms_spec (ws := wsX6_image_n) B.pre
  have hown : s.vm.findClass RX6 = some m.cls := findClass_of_methodNamed B.named
  have hlocks := B.notSynchronized
  have hl := lv_entry ([.ref h0, .int a0, .int a1]) (n := 10) (Nat.le_of_ble_eq_true rfl)
  rw [lg_entry_eq]
  generalize (lg_sl ([.ref h0, .int a0, .int a1]) ++ List.replicate (10 - (lg_sl ([.ref h0, .int a0, .int a1])).length) Slot.unset).toArray = ls at hl ⊢
  have hl : lv_has ls 10 [(0, .ref h0), (1, .int a0), (2, .int a1)] := hl
  dsimp only [mX6_image_n] at h
  refine lv_iload_n hx hb dX6_image_0 rfl (lv_at hl 1 rfl) ?_
  refine lv_i2l hx hb dX6_image_1 rfl ?_
  refine lv_lconst (v := 0) hx hb dX6_image_2 (by decide) ?_
  refine lv_aload_n hx hb dX6_image_3 rfl (lv_at hl 0 rfl) ?_
  refine va_get (D := (dC, dI)) (ci := 5) (v := .int t_curves) (C := RX6) (T := TX6) (N := 18) hx hb hts (by decide +kernel) hown hK hP 0 rfl rfl 9 (by decide) (hts (.fieldLink RX6 112 "PointRingsModel" "curves" "I") (by decide +kernel)) (fun _ h9 => h9) rfl dX6_image_4 ?_
  refine lv_iconst (v := 1) hx hb dX6_image_7 (by decide) ?_
  refine lv_isub hx hb dX6_image_8 ?_
  refine lv_i2l hx hb dX6_image_9 rfl ?_
  refine vp_callSi (W.runS (As := [.long a0.toInt64, .long 0, .long ((t_curves - 1).toInt64)]) (rest := []) ⟨hx, hb, hml, hown, hts⟩ (ctX6_in l N  a0.toInt64 0 ((t_curves - 1).toInt64) 0 hk0) (va_cwS 3 hts gX6_image_n_X6_in rfl rfl rfl (by decide +kernel) ⟨Nat.le_of_ble_eq_true rfl, Nat.le_of_ble_eq_true rfl⟩) preEq rfl rfl hl.1 rfl (lv_room (Nat.le_of_ble_eq_true rfl)) dX6_image_10 ⟨Nat.le_of_ble_eq_true rfl, Nat.le_of_ble_eq_true rfl⟩) (fun q9 eq9 => ?_)
  subst q9
  refine lv_if_eq (tgt := 47) hx hb dX6_image_13 (by decide) (fun c2 => ?_) (fun c2 => ?_)
  · refine lv_bipush (v := (-2)) hx hb dX6_image_47 (by decide) ?_
    have hv : (-2) = rr := Option.some.inj h
    exact W.iret (v := (-2)) hx hb hr (fun t ht hW => ⟨_, rfl, hv, ht⟩) (fun q hq => absurd hq List.not_mem_nil) dX6_image_49
  · exact absurd (by decide) c2
def wsX6_kernel_n : List Cond := .code yX6_kernel cX6_kernel 3 (some .int) :: (([.fieldLink RX6 112 "PointRingsModel" "curves" "I"] : List Cond) ++ (wsX60 ++ ((va_wsS RX6 100 yX6_in wsX6_in))))
set_option maxRecDepth 20000 in
theorem gX6_kernel_n_X6_in : GoodIn wsX6_kernel_n (va_wsS RX6 100 yX6_in wsX6_in) := goodIn_sub (fun w h => List.mem_cons_of_mem _ (List.mem_append_right _ (List.mem_append_right _ (h)))) (by decide +kernel)
def mX6_kernel_n (N : Nat) (a0 : Int32) (a1 : Int32) : Option (Int32) := some (-2)
abbrev rmX6_kernel_n : Room := { frames := 1, cells := 0, slots := 0, locals := 25 }
set_option maxHeartbeats 4000000 in
set_option maxRecDepth 100000 in
theorem ctX6_kernel_n (l : Launch) (N : Nat) (dC : Nat → ClassId) (dI : Nat → Nat → Nat) (h0 : Nat) (h0_inverses : Nat) (h0_roots : Nat) (h0_points : Nat) (h0_ahead : Nat) (h0_ps : Nat) (h0_as : Nat) (h0_bs : Nat) (h0_from : Nat) (h0_kernelPoint : Nat) (h0_kernelOrder : Nat) (h0_marked : Nat) (h0_seen : Nat) (t_p : Int32) (t_a : Int32) (t_b : Int32) (t_rooted : Int32) (t_pointMany : Int32) (t_curves : Int32) (a0 : Int32) (a1 : Int32) (rr : Int32) (h : mX6_kernel_n N a0 a1 = some rr) (hk0 : mX6_in N a0.toInt64 0 ((t_curves - 1).toInt64) = some 0) : Met l yX6_kernel wsX6_kernel_n rmX6_kernel_n (va_Pc [.ref h0, .int a0, .int a1] (fun U => va_P (dC, dI) vwCl [(h0, .inr (5, [.int t_p, .int t_a, .int t_b, .ref h0_inverses, .ref h0_roots, .int t_rooted, .ref h0_points, .int t_pointMany, .ref h0_ahead, .int t_curves, .ref h0_ps, .ref h0_as, .ref h0_bs, .ref h0_from, .ref h0_kernelPoint, .ref h0_kernelOrder, .ref h0_marked, .ref h0_seen]))] U.heap ∧ va_K (dC, dI) vwCl [] U ∧ nw_all U)) (vp_Si (fun r => r = rr)) 0 0 (fun _ => False) := by
  refine Met.ofW (cc := cX6_kernel) (maxL := 3) (ret := (some .int)) (by decide) rfl ?_
  intro p e s m args below meth c s₁ B hml hv
  obtain ⟨rfl, hP, hK, hN⟩ := hv
  have hx := B.exec
  have hb := B.bytes
  have hr := B.returns
  have hts := atoms_spec (ws := wsX6_kernel_n) B.pre
  have hown : s.vm.findClass RX6 = some m.cls := findClass_of_methodNamed B.named
  have hlocks := B.notSynchronized
  have hl := lv_entry ([.ref h0, .int a0, .int a1]) (n := 3) (Nat.le_of_ble_eq_true rfl)
  rw [lg_entry_eq]
  generalize (lg_sl ([.ref h0, .int a0, .int a1]) ++ List.replicate (3 - (lg_sl ([.ref h0, .int a0, .int a1])).length) Slot.unset).toArray = ls at hl ⊢
  have hl : lv_has ls 3 [(0, .ref h0), (1, .int a0), (2, .int a1)] := hl
  dsimp only [mX6_kernel_n] at h
  refine lv_iload_n hx hb dX6_kernel_0 rfl (lv_at hl 1 rfl) ?_
  refine lv_i2l hx hb dX6_kernel_1 rfl ?_
  refine lv_lconst (v := 0) hx hb dX6_kernel_2 (by decide) ?_
  refine lv_aload_n hx hb dX6_kernel_3 rfl (lv_at hl 0 rfl) ?_
  refine va_get (D := (dC, dI)) (ci := 5) (v := .int t_curves) (C := RX6) (T := TX6) (N := 18) hx hb hts (by decide +kernel) hown hK hP 0 rfl rfl 9 (by decide) (hts (.fieldLink RX6 112 "PointRingsModel" "curves" "I") (by decide +kernel)) (fun _ h9 => h9) rfl dX6_kernel_4 ?_
  refine lv_iconst (v := 1) hx hb dX6_kernel_7 (by decide) ?_
  refine lv_isub hx hb dX6_kernel_8 ?_
  refine lv_i2l hx hb dX6_kernel_9 rfl ?_
  refine vp_callSi (W.runS (As := [.long a0.toInt64, .long 0, .long ((t_curves - 1).toInt64)]) (rest := []) ⟨hx, hb, hml, hown, hts⟩ (ctX6_in l N  a0.toInt64 0 ((t_curves - 1).toInt64) 0 hk0) (va_cwS 3 hts gX6_kernel_n_X6_in rfl rfl rfl (by decide +kernel) ⟨Nat.le_of_ble_eq_true rfl, Nat.le_of_ble_eq_true rfl⟩) preEq rfl rfl hl.1 rfl (lv_room (Nat.le_of_ble_eq_true rfl)) dX6_kernel_10 ⟨Nat.le_of_ble_eq_true rfl, Nat.le_of_ble_eq_true rfl⟩) (fun q9 eq9 => ?_)
  subst q9
  refine lv_if_eq (tgt := 38) hx hb dX6_kernel_13 (by decide) (fun c2 => ?_) (fun c2 => ?_)
  · refine lv_bipush (v := (-2)) hx hb dX6_kernel_38 (by decide) ?_
    have hv : (-2) = rr := Option.some.inj h
    exact W.iret (v := (-2)) hx hb hr (fun t ht hW => ⟨_, rfl, hv, ht⟩) (fun q hq => absurd hq List.not_mem_nil) dX6_kernel_40
  · exact absurd (by decide) c2
def wsX6_sign_n : List Cond := .code yX6_sign cX6_sign 10 (some .int) :: (([] : List Cond) ++ ((wsV RX6 132 RX6 yX6_has wsX6_has_n)))
set_option maxRecDepth 20000 in
theorem gX6_sign_n_X6_has_n : GoodIn wsX6_sign_n (wsV RX6 132 RX6 yX6_has wsX6_has_n) := goodIn_sub (fun w h => List.mem_cons_of_mem _ (List.mem_append_right _ (h))) (by decide +kernel)
def mX6_sign_n (N : Nat) (a0 : Int32) (a1 : Int32) (a2 : Int32) (a3 : Int32) (a4 : Int32) (a5 : Int32) : Option (Int32) := some (-2)
abbrev rmX6_sign_n : Room := { frames := 2, cells := 0, slots := 0, locals := 46 }
set_option maxHeartbeats 4000000 in
set_option maxRecDepth 100000 in
theorem ctX6_sign_n (l : Launch) (N : Nat) (dC : Nat → ClassId) (dI : Nat → Nat → Nat) (h0 : Nat) (h0_inverses : Nat) (h0_roots : Nat) (h0_points : Nat) (h0_ahead : Nat) (h0_ps : Nat) (h0_as : Nat) (h0_bs : Nat) (h0_from : Nat) (h0_kernelPoint : Nat) (h0_kernelOrder : Nat) (h0_marked : Nat) (h0_seen : Nat) (t_p : Int32) (t_a : Int32) (t_b : Int32) (t_rooted : Int32) (t_pointMany : Int32) (t_curves : Int32) (a0 : Int32) (a1 : Int32) (a2 : Int32) (a3 : Int32) (a4 : Int32) (a5 : Int32) (rr : Int32) (h : mX6_sign_n N a0 a1 a2 a3 a4 a5 = some rr) (hk0 : mX6_in N a0.toInt64 0 ((t_curves - 1).toInt64) = some 0) : Met l yX6_sign wsX6_sign_n rmX6_sign_n (va_Pc [.ref h0, .int a0, .int a1, .int a2, .int a3, .int a4, .int a5] (fun U => va_P (dC, dI) vwCl [(h0, .inr (5, [.int t_p, .int t_a, .int t_b, .ref h0_inverses, .ref h0_roots, .int t_rooted, .ref h0_points, .int t_pointMany, .ref h0_ahead, .int t_curves, .ref h0_ps, .ref h0_as, .ref h0_bs, .ref h0_from, .ref h0_kernelPoint, .ref h0_kernelOrder, .ref h0_marked, .ref h0_seen]))] U.heap ∧ va_K (dC, dI) vwCl [] U ∧ nw_all U)) (vp_Si (fun r => r = rr)) 0 0 (fun _ => False) := by
  refine Met.ofW (cc := cX6_sign) (maxL := 10) (ret := (some .int)) (by decide) rfl ?_
  intro p e s m args below meth c s₁ B hml hv
  obtain ⟨rfl, hP, hK, hN⟩ := hv
  have hx := B.exec
  have hb := B.bytes
  have hr := B.returns
  have hts := atoms_spec (ws := wsX6_sign_n) B.pre
  have hown : s.vm.findClass RX6 = some m.cls := findClass_of_methodNamed B.named
  have hlocks := B.notSynchronized
  have hl := lv_entry ([.ref h0, .int a0, .int a1, .int a2, .int a3, .int a4, .int a5]) (n := 10) (Nat.le_of_ble_eq_true rfl)
  rw [lg_entry_eq]
  generalize (lg_sl ([.ref h0, .int a0, .int a1, .int a2, .int a3, .int a4, .int a5]) ++ List.replicate (10 - (lg_sl ([.ref h0, .int a0, .int a1, .int a2, .int a3, .int a4, .int a5])).length) Slot.unset).toArray = ls at hl ⊢
  have hl : lv_has ls 10 [(0, .ref h0), (1, .int a0), (2, .int a1), (3, .int a2), (4, .int a3), (5, .int a4), (6, .int a5)] := hl
  dsimp only [mX6_sign_n] at h
  refine lv_aload_n hx hb dX6_sign_0 rfl (lv_at hl 0 rfl) ?_
  refine lv_iload_n hx hb dX6_sign_1 rfl (lv_at hl 1 rfl) ?_
  have hPc := hP.sub (ws' := [(h0, .inr (5, [.int t_p, .int t_a, .int t_b, .ref h0_inverses, .ref h0_roots, .int t_rooted, .ref h0_points, .int t_pointMany, .ref h0_ahead, .int t_curves, .ref h0_ps, .ref h0_as, .ref h0_bs, .ref h0_from, .ref h0_kernelPoint, .ref h0_kernelOrder, .ref h0_marked, .ref h0_seen]))]) [0] rfl
  have hKc := hK.sub (tys' := []) [] rfl
  refine vp_callSi (W.runV (As := [.int a0]) (rest := []) ⟨hx, hb, hml, hown, hts⟩ (ctX6_has_n l N dC dI  h0 h0_inverses h0_roots h0_points h0_ahead h0_ps h0_as h0_bs h0_from h0_kernelPoint h0_kernelOrder h0_marked h0_seen t_p t_a t_b t_rooted t_pointMany t_curves a0 0 rfl hk0) (cwV 1 hts gX6_sign_n_X6_has_n rfl rfl rfl (by decide +kernel) ⟨Nat.le_of_ble_eq_true rfl, Nat.le_of_ble_eq_true rfl⟩) ⟨fun a U g mk q => by obtain ⟨q0, qP, qK, qN⟩ := q; exact ⟨q0, qP, va_K.moved (u := U) (U := U.calling g mk a) (Vm.Alike.refl U.vm) qK, nw_same (u := U) (U := U.calling g mk a) rfl qN⟩, va_recv hKc hPc (ci := 5) (q0 := 0) rfl rfl, fun U hU hW => ⟨rfl, by rw [hU]; exact hPc, va_K.moved hW.alike hKc, nw_warm hW hN⟩⟩ rfl rfl hl.1 rfl (lv_room (Nat.le_of_ble_eq_true rfl)) dX6_sign_2 ⟨Nat.le_of_ble_eq_true rfl, Nat.le_of_ble_eq_true rfl⟩) (fun q9 eq9 => ?_)
  subst q9
  refine lv_if_eq (tgt := 32) hx hb dX6_sign_5 (by decide) (fun c2 => ?_) (fun c2 => ?_)
  · refine lv_bipush (v := (-2)) hx hb dX6_sign_32 (by decide) ?_
    have hv : (-2) = rr := Option.some.inj h
    exact W.iret (v := (-2)) hx hb hr (fun t ht hW => ⟨_, rfl, hv, ht⟩) (fun q hq => absurd hq List.not_mem_nil) dX6_sign_34
  · exact absurd (by decide) c2
def wsX6_good_n : List Cond := .code yX6_good cX6_good 11 (some .int) :: (([] : List Cond) ++ ((wsV RX6 132 RX6 yX6_has wsX6_has_n)))
set_option maxRecDepth 20000 in
theorem gX6_good_n_X6_has_n : GoodIn wsX6_good_n (wsV RX6 132 RX6 yX6_has wsX6_has_n) := goodIn_sub (fun w h => List.mem_cons_of_mem _ (List.mem_append_right _ (h))) (by decide +kernel)
def mX6_good_n (N : Nat) (a0 : Int32) (a1 : Int32) (a2 : Int32) (a3 : Int32) (a4 : Int32) (a5 : Int32) : Option (Int32) := some (-2)
abbrev rmX6_good_n : Room := { frames := 2, cells := 0, slots := 0, locals := 46 }
set_option maxHeartbeats 4000000 in
set_option maxRecDepth 100000 in
theorem ctX6_good_n (l : Launch) (N : Nat) (dC : Nat → ClassId) (dI : Nat → Nat → Nat) (h0 : Nat) (h0_inverses : Nat) (h0_roots : Nat) (h0_points : Nat) (h0_ahead : Nat) (h0_ps : Nat) (h0_as : Nat) (h0_bs : Nat) (h0_from : Nat) (h0_kernelPoint : Nat) (h0_kernelOrder : Nat) (h0_marked : Nat) (h0_seen : Nat) (t_p : Int32) (t_a : Int32) (t_b : Int32) (t_rooted : Int32) (t_pointMany : Int32) (t_curves : Int32) (a0 : Int32) (a1 : Int32) (a2 : Int32) (a3 : Int32) (a4 : Int32) (a5 : Int32) (rr : Int32) (h : mX6_good_n N a0 a1 a2 a3 a4 a5 = some rr) (hk0 : mX6_in N a0.toInt64 0 ((t_curves - 1).toInt64) = some 0) : Met l yX6_good wsX6_good_n rmX6_good_n (va_Pc [.ref h0, .int a0, .int a1, .int a2, .int a3, .int a4, .int a5] (fun U => va_P (dC, dI) vwCl [(h0, .inr (5, [.int t_p, .int t_a, .int t_b, .ref h0_inverses, .ref h0_roots, .int t_rooted, .ref h0_points, .int t_pointMany, .ref h0_ahead, .int t_curves, .ref h0_ps, .ref h0_as, .ref h0_bs, .ref h0_from, .ref h0_kernelPoint, .ref h0_kernelOrder, .ref h0_marked, .ref h0_seen]))] U.heap ∧ va_K (dC, dI) vwCl [] U ∧ nw_all U)) (vp_Si (fun r => r = rr)) 0 0 (fun _ => False) := by
  refine Met.ofW (cc := cX6_good) (maxL := 11) (ret := (some .int)) (by decide) rfl ?_
  intro p e s m args below meth c s₁ B hml hv
  obtain ⟨rfl, hP, hK, hN⟩ := hv
  have hx := B.exec
  have hb := B.bytes
  have hr := B.returns
  have hts := atoms_spec (ws := wsX6_good_n) B.pre
  have hown : s.vm.findClass RX6 = some m.cls := findClass_of_methodNamed B.named
  have hlocks := B.notSynchronized
  have hl := lv_entry ([.ref h0, .int a0, .int a1, .int a2, .int a3, .int a4, .int a5]) (n := 11) (Nat.le_of_ble_eq_true rfl)
  rw [lg_entry_eq]
  generalize (lg_sl ([.ref h0, .int a0, .int a1, .int a2, .int a3, .int a4, .int a5]) ++ List.replicate (11 - (lg_sl ([.ref h0, .int a0, .int a1, .int a2, .int a3, .int a4, .int a5])).length) Slot.unset).toArray = ls at hl ⊢
  have hl : lv_has ls 11 [(0, .ref h0), (1, .int a0), (2, .int a1), (3, .int a2), (4, .int a3), (5, .int a4), (6, .int a5)] := hl
  dsimp only [mX6_good_n] at h
  refine lv_aload_n hx hb dX6_good_0 rfl (lv_at hl 0 rfl) ?_
  refine lv_iload_n hx hb dX6_good_1 rfl (lv_at hl 1 rfl) ?_
  have hPc := hP.sub (ws' := [(h0, .inr (5, [.int t_p, .int t_a, .int t_b, .ref h0_inverses, .ref h0_roots, .int t_rooted, .ref h0_points, .int t_pointMany, .ref h0_ahead, .int t_curves, .ref h0_ps, .ref h0_as, .ref h0_bs, .ref h0_from, .ref h0_kernelPoint, .ref h0_kernelOrder, .ref h0_marked, .ref h0_seen]))]) [0] rfl
  have hKc := hK.sub (tys' := []) [] rfl
  refine vp_callSi (W.runV (As := [.int a0]) (rest := []) ⟨hx, hb, hml, hown, hts⟩ (ctX6_has_n l N dC dI  h0 h0_inverses h0_roots h0_points h0_ahead h0_ps h0_as h0_bs h0_from h0_kernelPoint h0_kernelOrder h0_marked h0_seen t_p t_a t_b t_rooted t_pointMany t_curves a0 0 rfl hk0) (cwV 1 hts gX6_good_n_X6_has_n rfl rfl rfl (by decide +kernel) ⟨Nat.le_of_ble_eq_true rfl, Nat.le_of_ble_eq_true rfl⟩) ⟨fun a U g mk q => by obtain ⟨q0, qP, qK, qN⟩ := q; exact ⟨q0, qP, va_K.moved (u := U) (U := U.calling g mk a) (Vm.Alike.refl U.vm) qK, nw_same (u := U) (U := U.calling g mk a) rfl qN⟩, va_recv hKc hPc (ci := 5) (q0 := 0) rfl rfl, fun U hU hW => ⟨rfl, by rw [hU]; exact hPc, va_K.moved hW.alike hKc, nw_warm hW hN⟩⟩ rfl rfl hl.1 rfl (lv_room (Nat.le_of_ble_eq_true rfl)) dX6_good_2 ⟨Nat.le_of_ble_eq_true rfl, Nat.le_of_ble_eq_true rfl⟩) (fun q9 eq9 => ?_)
  subst q9
  refine lv_if_eq (tgt := 29) hx hb dX6_good_5 (by decide) (fun c2 => ?_) (fun c2 => ?_)
  · refine lv_bipush (v := (-2)) hx hb dX6_good_29 (by decide) ?_
    have hv : (-2) = rr := Option.some.inj h
    exact W.iret (v := (-2)) hx hb hr (fun t ht hW => ⟨_, rfl, hv, ht⟩) (fun q hq => absurd hq List.not_mem_nil) dX6_good_31
  · exact absurd (by decide) c2
