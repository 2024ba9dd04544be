def wsX5_told_n : List Cond := .code yX5_told cX5_told 4 (some .int) :: (([] : List Cond) ++ ((wsV RX5 47 RX5 yX5_at wsX5_at)))
set_option maxRecDepth 20000 in
theorem gX5_told_n_X5_at : GoodIn wsX5_told_n (wsV RX5 47 RX5 yX5_at wsX5_at) := goodIn_sub (fun w h => List.mem_cons_of_mem _ (List.mem_append_right _ (h))) (by decide +kernel)
def mX5_told_n (N : Nat) (a0 : Int32) (a1 : Int32) : Option (Int32) := some (-2)
abbrev rmX5_told_n : Room := { frames := 1, cells := 0, slots := 0, locals := 21 }
set_option maxHeartbeats 4000000 in
set_option maxRecDepth 100000 in
theorem ctX5_told_n (l : Launch) (N : Nat) (dC : Nat → ClassId) (dI : Nat → Nat → Nat) (h0 : Nat) (h0_held : Nat) (h0_survey : Nat) (k_t_held : ClassId) (t_size : Int32) (t_held : Nat → Option Nat) (a0 : Int32) (a1 : Int32) (rr : Int32) (h : mX5_told_n N a0 a1 = some rr) (hk0 : mX5_at N t_size t_held a0 = some none) : Met l yX5_told wsX5_told_n rmX5_told_n (va_Pc [.ref h0, .int a0, .int a1] (fun U => va_P (dC, dI) vwCl [(h0, .inr (4, [.ref h0_held, .int t_size, .ref h0_survey])), (h0_held, .inl (k_t_held, 24, .inr (.inr (.inr (.inr t_held)))))] U.heap ∧ va_K (dC, dI) vwCl [(k_t_held, .object "PointRings$Curve")] U ∧ nw_all U)) (vp_Si (fun r => r = rr)) 0 0 (fun _ => False) := by
  refine Met.ofW (cc := cX5_told) (maxL := 4) (ret := (some .int)) (by decide) rfl ?_
  intro p e s m args below meth c s₁ B hml hv
  obtain ⟨rfl, hP, hK, hN⟩ := hv
  have hx := B.exec
  have hb := B.bytes
  have hr := B.returns
  have hts := atoms_spec (ws := wsX5_told_n) B.pre
  have hown : s.vm.findClass RX5 = some m.cls := findClass_of_methodNamed B.named
  have hlocks := B.notSynchronized
  have hl := lv_entry ([.ref h0, .int a0, .int a1]) (n := 4) (Nat.le_of_ble_eq_true rfl)
  rw [lg_entry_eq]
  generalize (lg_sl ([.ref h0, .int a0, .int a1]) ++ List.replicate (4 - (lg_sl ([.ref h0, .int a0, .int a1])).length) Slot.unset).toArray = ls at hl ⊢
  have hl : lv_has ls 4 [(0, .ref h0), (1, .int a0), (2, .int a1)] := hl
  dsimp only [mX5_told_n] at h
  refine lv_aload_n hx hb dX5_told_0 rfl (lv_at hl 0 rfl) ?_
  refine lv_iload_n hx hb dX5_told_1 rfl (lv_at hl 1 rfl) ?_
  have hPc := hP.sub (ws' := [(h0, .inr (4, [.ref h0_held, .int t_size, .ref h0_survey])), (h0_held, .inl (k_t_held, 24, .inr (.inr (.inr (.inr t_held)))))]) [0, 1] rfl
  have hKc := hK.sub (tys' := [(k_t_held, .object "PointRings$Curve")]) [0] rfl
  refine va_csq (W.runV (As := [.int a0]) (rest := []) ⟨hx, hb, hml, hown, hts⟩ (ctX5_at l N dC dI  h0 h0_held h0_survey k_t_held t_size t_held a0 none hk0) (cwV 1 hts gX5_told_n_X5_at rfl rfl rfl (by decide +kernel) ⟨Nat.le_of_ble_eq_true rfl, Nat.le_of_ble_eq_true rfl⟩) ⟨fun a U g mk q => by obtain ⟨q0, qP, qK, qN⟩ := q; exact ⟨q0, qP, va_K.moved (u := U) (U := U.calling g mk a) (Vm.Alike.refl U.vm) qK, nw_same (u := U) (U := U.calling g mk a) rfl qN⟩, va_recv hKc hPc (ci := 4) (q0 := 0) rfl rfl, fun U hU hW => ⟨rfl, by rw [hU]; exact hPc, va_K.moved hW.alike hKc, nw_warm hW hN⟩⟩ rfl rfl hl.1 rfl (lv_room (Nat.le_of_ble_eq_true rfl)) dX5_told_2 ⟨Nat.le_of_ble_eq_true rfl, Nat.le_of_ble_eq_true rfl⟩) (fun q9 eq9 => ?_)
  subst q9
  refine lv_astore_nN (lv' := [(3, .null), (0, .ref h0), (1, .int a0), (2, .int a1)]) hx hb dX5_told_5 rfl hl (by decide) rfl (fun ls hl => ?_)
  refine lv_aload_nN hx hb dX5_told_6 rfl (lv_at hl 0 rfl) ?_
  refine lv_ifnonnullN hx hb dX5_told_7 ?_
  refine lv_bipush (v := (-2)) hx hb dX5_told_10 (by decide) ?_
  have hv : (-2) = rr := Option.some.inj h
  exact W.iret (v := (-2)) hx hb hr (fun t ht hW => ⟨_, rfl, hv, ht⟩) (fun q hq => absurd hq List.not_mem_nil) dX5_told_12
def wsX5_twist_n : List Cond := .code yX5_twist cX5_twist 3 (some .int) :: (([] : List Cond) ++ ((wsV RX5 47 RX5 yX5_at wsX5_at)))
set_option maxRecDepth 20000 in
theorem gX5_twist_n_X5_at : GoodIn wsX5_twist_n (wsV RX5 47 RX5 yX5_at wsX5_at) := goodIn_sub (fun w h => List.mem_cons_of_mem _ (List.mem_append_right _ (h))) (by decide +kernel)
def mX5_twist_n (N : Nat) (a0 : Int32) : Option (Int32) := some (-2)
abbrev rmX5_twist_n : Room := { frames := 1, cells := 0, slots := 0, locals := 21 }
set_option maxHeartbeats 4000000 in
set_option maxRecDepth 100000 in
theorem ctX5_twist_n (l : Launch) (N : Nat) (dC : Nat → ClassId) (dI : Nat → Nat → Nat) (h0 : Nat) (h0_held : Nat) (h0_survey : Nat) (k_t_held : ClassId) (t_size : Int32) (t_held : Nat → Option Nat) (a0 : Int32) (rr : Int32) (h : mX5_twist_n N a0 = some rr) (hk0 : mX5_at N t_size t_held a0 = some none) : Met l yX5_twist wsX5_twist_n rmX5_twist_n (va_Pc [.ref h0, .int a0] (fun U => va_P (dC, dI) vwCl [(h0, .inr (4, [.ref h0_held, .int t_size, .ref h0_survey])), (h0_held, .inl (k_t_held, 24, .inr (.inr (.inr (.inr t_held)))))] U.heap ∧ va_K (dC, dI) vwCl [(k_t_held, .object "PointRings$Curve")] U ∧ nw_all U)) (vp_Si (fun r => r = rr)) 0 0 (fun _ => False) := by
  refine Met.ofW (cc := cX5_twist) (maxL := 3) (ret := (some .int)) (by decide) rfl ?_
  intro p e s m args below meth c s₁ B hml hv
  obtain ⟨rfl, hP, hK, hN⟩ := hv
  have hx := B.exec
  have hb := B.bytes
  have hr := B.returns
  have hts := atoms_spec (ws := wsX5_twist_n) B.pre
  have hown : s.vm.findClass RX5 = some m.cls := findClass_of_methodNamed B.named
  have hlocks := B.notSynchronized
  have hl := lv_entry ([.ref h0, .int a0]) (n := 3) (Nat.le_of_ble_eq_true rfl)
  rw [lg_entry_eq]
  generalize (lg_sl ([.ref h0, .int a0]) ++ List.replicate (3 - (lg_sl ([.ref h0, .int a0])).length) Slot.unset).toArray = ls at hl ⊢
  have hl : lv_has ls 3 [(0, .ref h0), (1, .int a0)] := hl
  dsimp only [mX5_twist_n] at h
  refine lv_aload_n hx hb dX5_twist_0 rfl (lv_at hl 0 rfl) ?_
  refine lv_iload_n hx hb dX5_twist_1 rfl (lv_at hl 1 rfl) ?_
  have hPc := hP.sub (ws' := [(h0, .inr (4, [.ref h0_held, .int t_size, .ref h0_survey])), (h0_held, .inl (k_t_held, 24, .inr (.inr (.inr (.inr t_held)))))]) [0, 1] rfl
  have hKc := hK.sub (tys' := [(k_t_held, .object "PointRings$Curve")]) [0] rfl
  refine va_csq (W.runV (As := [.int a0]) (rest := []) ⟨hx, hb, hml, hown, hts⟩ (ctX5_at l N dC dI  h0 h0_held h0_survey k_t_held t_size t_held a0 none hk0) (cwV 1 hts gX5_twist_n_X5_at rfl rfl rfl (by decide +kernel) ⟨Nat.le_of_ble_eq_true rfl, Nat.le_of_ble_eq_true rfl⟩) ⟨fun a U g mk q => by obtain ⟨q0, qP, qK, qN⟩ := q; exact ⟨q0, qP, va_K.moved (u := U) (U := U.calling g mk a) (Vm.Alike.refl U.vm) qK, nw_same (u := U) (U := U.calling g mk a) rfl qN⟩, va_recv hKc hPc (ci := 4) (q0 := 0) rfl rfl, fun U hU hW => ⟨rfl, by rw [hU]; exact hPc, va_K.moved hW.alike hKc, nw_warm hW hN⟩⟩ rfl rfl hl.1 rfl (lv_room (Nat.le_of_ble_eq_true rfl)) dX5_twist_2 ⟨Nat.le_of_ble_eq_true rfl, Nat.le_of_ble_eq_true rfl⟩) (fun q9 eq9 => ?_)
  subst q9
  refine lv_astore_nN (lv' := [(2, .null), (0, .ref h0), (1, .int a0)]) hx hb dX5_twist_5 rfl hl (by decide) rfl (fun ls hl => ?_)
  refine lv_aload_nN hx hb dX5_twist_6 rfl (lv_at hl 0 rfl) ?_
  refine lv_ifnonnullN hx hb dX5_twist_7 ?_
  refine lv_bipush (v := (-2)) hx hb dX5_twist_10 (by decide) ?_
  refine lv_goto (tgt := 23) hx hb dX5_twist_12 (by decide) ?_
  have hv : (-2) = rr := Option.some.inj h
  exact W.iret (v := (-2)) hx hb hr (fun t ht hW => ⟨_, rfl, hv, ht⟩) (fun q hq => absurd hq List.not_mem_nil) dX5_twist_23
def wsX5_map_n : List Cond := .code yX5_map cX5_map 5 (some .int) :: (([] : List Cond) ++ ((wsV RX5 47 RX5 yX5_at wsX5_at)))
set_option maxRecDepth 20000 in
theorem gX5_map_n_X5_at : GoodIn wsX5_map_n (wsV RX5 47 RX5 yX5_at wsX5_at) := goodIn_sub (fun w h => List.mem_cons_of_mem _ (List.mem_append_right _ (h))) (by decide +kernel)
def mX5_map_n (N : Nat) (a0 : Int32) (a1 : Int32) : Option (Int32) := some (-2)
abbrev rmX5_map_n : Room := { frames := 1, cells := 0, slots := 0, locals := 21 }
set_option maxHeartbeats 4000000 in
set_option maxRecDepth 100000 in
theorem ctX5_map_n (l : Launch) (N : Nat) (dC : Nat → ClassId) (dI : Nat → Nat → Nat) (h0 : Nat) (h0_held : Nat) (h0_survey : Nat) (k_t_held : ClassId) (t_size : Int32) (t_held : Nat → Option Nat) (a0 : Int32) (a1 : Int32) (rr : Int32) (h : mX5_map_n N a0 a1 = some rr) (hk0 : mX5_at N t_size t_held a0 = some none) (hk1 : mX5_at N t_size t_held a1 = some none) : Met l yX5_map wsX5_map_n rmX5_map_n (va_Pc [.ref h0, .int a0, .int a1] (fun U => va_P (dC, dI) vwCl [(h0, .inr (4, [.ref h0_held, .int t_size, .ref h0_survey])), (h0_held, .inl (k_t_held, 24, .inr (.inr (.inr (.inr t_held)))))] U.heap ∧ va_K (dC, dI) vwCl [(k_t_held, .object "PointRings$Curve")] U ∧ nw_all U)) (vp_Si (fun r => r = rr)) 0 0 (fun _ => False) := by
  refine Met.ofW (cc := cX5_map) (maxL := 5) (ret := (some .int)) (by decide) rfl ?_
  intro p e s m args below meth c s₁ B hml hv
  obtain ⟨rfl, hP, hK, hN⟩ := hv
  have hx := B.exec
  have hb := B.bytes
  have hr := B.returns
  have hts := atoms_spec (ws := wsX5_map_n) B.pre
  have hown : s.vm.findClass RX5 = some m.cls := findClass_of_methodNamed B.named
  have hlocks := B.notSynchronized
  have hl := lv_entry ([.ref h0, .int a0, .int a1]) (n := 5) (Nat.le_of_ble_eq_true rfl)
  rw [lg_entry_eq]
  generalize (lg_sl ([.ref h0, .int a0, .int a1]) ++ List.replicate (5 - (lg_sl ([.ref h0, .int a0, .int a1])).length) Slot.unset).toArray = ls at hl ⊢
  have hl : lv_has ls 5 [(0, .ref h0), (1, .int a0), (2, .int a1)] := hl
  dsimp only [mX5_map_n] at h
  refine lv_aload_n hx hb dX5_map_0 rfl (lv_at hl 0 rfl) ?_
  refine lv_iload_n hx hb dX5_map_1 rfl (lv_at hl 1 rfl) ?_
  have hPc := hP.sub (ws' := [(h0, .inr (4, [.ref h0_held, .int t_size, .ref h0_survey])), (h0_held, .inl (k_t_held, 24, .inr (.inr (.inr (.inr t_held)))))]) [0, 1] rfl
  have hKc := hK.sub (tys' := [(k_t_held, .object "PointRings$Curve")]) [0] rfl
  refine va_csq (W.runV (As := [.int a0]) (rest := []) ⟨hx, hb, hml, hown, hts⟩ (ctX5_at l N dC dI  h0 h0_held h0_survey k_t_held t_size t_held a0 none hk0) (cwV 1 hts gX5_map_n_X5_at rfl rfl rfl (by decide +kernel) ⟨Nat.le_of_ble_eq_true rfl, Nat.le_of_ble_eq_true rfl⟩) ⟨fun a U g mk q => by obtain ⟨q0, qP, qK, qN⟩ := q; exact ⟨q0, qP, va_K.moved (u := U) (U := U.calling g mk a) (Vm.Alike.refl U.vm) qK, nw_same (u := U) (U := U.calling g mk a) rfl qN⟩, va_recv hKc hPc (ci := 4) (q0 := 0) rfl rfl, fun U hU hW => ⟨rfl, by rw [hU]; exact hPc, va_K.moved hW.alike hKc, nw_warm hW hN⟩⟩ rfl rfl hl.1 rfl (lv_room (Nat.le_of_ble_eq_true rfl)) dX5_map_2 ⟨Nat.le_of_ble_eq_true rfl, Nat.le_of_ble_eq_true rfl⟩) (fun q9 eq9 => ?_)
  subst q9
  refine lv_astore_nN (lv' := [(3, .null), (0, .ref h0), (1, .int a0), (2, .int a1)]) hx hb dX5_map_5 rfl hl (by decide) rfl (fun ls hl => ?_)
  refine lv_aload_n hx hb dX5_map_6 rfl (lv_at hl 1 rfl) ?_
  refine lv_iload_n hx hb dX5_map_7 rfl (lv_at hl 3 rfl) ?_
  have hPc := hP.sub (ws' := [(h0, .inr (4, [.ref h0_held, .int t_size, .ref h0_survey])), (h0_held, .inl (k_t_held, 24, .inr (.inr (.inr (.inr t_held)))))]) [0, 1] rfl
  have hKc := hK.sub (tys' := [(k_t_held, .object "PointRings$Curve")]) [0] rfl
  refine va_csq (W.runV (As := [.int a1]) (rest := []) ⟨hx, hb, hml, hown, hts⟩ (ctX5_at l N dC dI  h0 h0_held h0_survey k_t_held t_size t_held a1 none hk1) (cwV 1 hts gX5_map_n_X5_at rfl rfl rfl (by decide +kernel) ⟨Nat.le_of_ble_eq_true rfl, Nat.le_of_ble_eq_true rfl⟩) ⟨fun a U g mk q => by obtain ⟨q0, qP, qK, qN⟩ := q; exact ⟨q0, qP, va_K.moved (u := U) (U := U.calling g mk a) (Vm.Alike.refl U.vm) qK, nw_same (u := U) (U := U.calling g mk a) rfl qN⟩, va_recv hKc hPc (ci := 4) (q0 := 0) rfl rfl, fun U hU hW => ⟨rfl, by rw [hU]; exact hPc, va_K.moved hW.alike hKc, nw_warm hW hN⟩⟩ rfl rfl hl.1 rfl (lv_room (Nat.le_of_ble_eq_true rfl)) dX5_map_8 ⟨Nat.le_of_ble_eq_true rfl, Nat.le_of_ble_eq_true rfl⟩) (fun q9 eq9 => ?_)
  subst q9
  refine lv_astoreN (lv' := [(4, .null), (3, .null), (0, .ref h0), (1, .int a0), (2, .int a1)]) hx hb dX5_map_11 hl (by decide) rfl (fun ls hl => ?_)
  refine lv_aload_nN hx hb dX5_map_13 rfl (lv_at hl 1 rfl) ?_
  refine lv_ifnullN (tgt := 22) hx hb dX5_map_14 (by decide) ?_
  refine lv_bipush (v := (-2)) hx hb dX5_map_22 (by decide) ?_
  have hv : (-2) = rr := Option.some.inj h
  exact W.iret (v := (-2)) hx hb hr (fun t ht hW => ⟨_, rfl, hv, ht⟩) (fun q hq => absurd hq List.not_mem_nil) dX5_map_24
def wsX5_mapped_n : List Cond := .code yX5_mapped cX5_mapped 7 (some .int) :: (([] : List Cond) ++ ((wsV RX5 47 RX5 yX5_at wsX5_at)))
set_option maxRecDepth 20000 in
theorem gX5_mapped_n_X5_at : GoodIn wsX5_mapped_n (wsV RX5 47 RX5 yX5_at wsX5_at) := goodIn_sub (fun w h => List.mem_cons_of_mem _ (List.mem_append_right _ (h))) (by decide +kernel)
def mX5_mapped_n (N : Nat) (a0 : Int32) (a1 : Int32) (a2 : Int32) : Option (Int32) := some (-2)
abbrev rmX5_mapped_n : Room := { frames := 1, cells := 0, slots := 0, locals := 21 }
set_option maxHeartbeats 4000000 in
set_option maxRecDepth 100000 in
theorem ctX5_mapped_n (l : Launch) (N : Nat) (dC : Nat → ClassId) (dI : Nat → Nat → Nat) (h0 : Nat) (h0_held : Nat) (h0_survey : Nat) (k_t_held : ClassId) (t_size : Int32) (t_held : Nat → Option Nat) (a0 : Int32) (a1 : Int32) (a2 : Int32) (rr : Int32) (h : mX5_mapped_n N a0 a1 a2 = some rr) (hk0 : mX5_at N t_size t_held a0 = some none) : Met l yX5_mapped wsX5_mapped_n rmX5_mapped_n (va_Pc [.ref h0, .int a0, .int a1, .int a2] (fun U => va_P (dC, dI) vwCl [(h0, .inr (4, [.ref h0_held, .int t_size, .ref h0_survey])), (h0_held, .inl (k_t_held, 24, .inr (.inr (.inr (.inr t_held)))))] U.heap ∧ va_K (dC, dI) vwCl [(k_t_held, .object "PointRings$Curve")] U ∧ nw_all U)) (vp_Si (fun r => r = rr)) 0 0 (fun _ => False) := by
  refine Met.ofW (cc := cX5_mapped) (maxL := 7) (ret := (some .int)) (by decide) rfl ?_
  intro p e s m args below meth c s₁ B hml hv
  obtain ⟨rfl, hP, hK, hN⟩ := hv
  have hx := B.exec
  have hb := B.bytes
  have hr := B.returns
  have hts := atoms_spec (ws := wsX5_mapped_n) B.pre
  have hown : s.vm.findClass RX5 = some m.cls := findClass_of_methodNamed B.named
  have hlocks := B.notSynchronized
  have hl := lv_entry ([.ref h0, .int a0, .int a1, .int a2]) (n := 7) (Nat.le_of_ble_eq_true rfl)
  rw [lg_entry_eq]
  generalize (lg_sl ([.ref h0, .int a0, .int a1, .int a2]) ++ List.replicate (7 - (lg_sl ([.ref h0, .int a0, .int a1, .int a2])).length) Slot.unset).toArray = ls at hl ⊢
  have hl : lv_has ls 7 [(0, .ref h0), (1, .int a0), (2, .int a1), (3, .int a2)] := hl
  dsimp only [mX5_mapped_n] at h
  refine lv_aload_n hx hb dX5_mapped_0 rfl (lv_at hl 0 rfl) ?_
  refine lv_iload_n hx hb dX5_mapped_1 rfl (lv_at hl 1 rfl) ?_
  have hPc := hP.sub (ws' := [(h0, .inr (4, [.ref h0_held, .int t_size, .ref h0_survey])), (h0_held, .inl (k_t_held, 24, .inr (.inr (.inr (.inr t_held)))))]) [0, 1] rfl
  have hKc := hK.sub (tys' := [(k_t_held, .object "PointRings$Curve")]) [0] rfl
  refine va_csq (W.runV (As := [.int a0]) (rest := []) ⟨hx, hb, hml, hown, hts⟩ (ctX5_at l N dC dI  h0 h0_held h0_survey k_t_held t_size t_held a0 none hk0) (cwV 1 hts gX5_mapped_n_X5_at rfl rfl rfl (by decide +kernel) ⟨Nat.le_of_ble_eq_true rfl, Nat.le_of_ble_eq_true rfl⟩) ⟨fun a U g mk q => by obtain ⟨q0, qP, qK, qN⟩ := q; exact ⟨q0, qP, va_K.moved (u := U) (U := U.calling g mk a) (Vm.Alike.refl U.vm) qK, nw_same (u := U) (U := U.calling g mk a) rfl qN⟩, va_recv hKc hPc (ci := 4) (q0 := 0) rfl rfl, fun U hU hW => ⟨rfl, by rw [hU]; exact hPc, va_K.moved hW.alike hKc, nw_warm hW hN⟩⟩ rfl rfl hl.1 rfl (lv_room (Nat.le_of_ble_eq_true rfl)) dX5_mapped_2 ⟨Nat.le_of_ble_eq_true rfl, Nat.le_of_ble_eq_true rfl⟩) (fun q9 eq9 => ?_)
  subst q9
  refine lv_astoreN (lv' := [(4, .null), (0, .ref h0), (1, .int a0), (2, .int a1), (3, .int a2)]) hx hb dX5_mapped_5 hl (by decide) rfl (fun ls hl => ?_)
  refine lv_aloadN hx hb dX5_mapped_7 (lv_at hl 0 rfl) ?_
  refine lv_ifnullN (tgt := 37) hx hb dX5_mapped_9 (by decide) ?_
  refine lv_bipush (v := (-2)) hx hb dX5_mapped_37 (by decide) ?_
  have hv : (-2) = rr := Option.some.inj h
  exact W.iret (v := (-2)) hx hb hr (fun t ht hW => ⟨_, rfl, hv, ht⟩) (fun q hq => absurd hq List.not_mem_nil) dX5_mapped_39
def wsX5_root_n : List Cond := .code yX5_root cX5_root 4 (some .int) :: (([] : List Cond) ++ ((wsV RX5 47 RX5 yX5_at wsX5_at)))
set_option maxRecDepth 20000 in
theorem gX5_root_n_X5_at : GoodIn wsX5_root_n (wsV RX5 47 RX5 yX5_at wsX5_at) := goodIn_sub (fun w h => List.mem_cons_of_mem _ (List.mem_append_right _ (h))) (by decide +kernel)
def mX5_root_n (N : Nat) (a0 : Int32) (a1 : Int32) : Option (Int32) := some (-2)
abbrev rmX5_root_n : Room := { frames := 1, cells := 0, slots := 0, locals := 21 }
set_option maxHeartbeats 4000000 in
set_option maxRecDepth 100000 in
theorem ctX5_root_n (l : Launch) (N : Nat) (dC : Nat → ClassId) (dI : Nat → Nat → Nat) (h0 : Nat) (h0_held : Nat) (h0_survey : Nat) (k_t_held : ClassId) (t_size : Int32) (t_held : Nat → Option Nat) (a0 : Int32) (a1 : Int32) (rr : Int32) (h : mX5_root_n N a0 a1 = some rr) (hk0 : mX5_at N t_size t_held a0 = some none) : Met l yX5_root wsX5_root_n rmX5_root_n (va_Pc [.ref h0, .int a0, .int a1] (fun U => va_P (dC, dI) vwCl [(h0, .inr (4, [.ref h0_held, .int t_size, .ref h0_survey])), (h0_held, .inl (k_t_held, 24, .inr (.inr (.inr (.inr t_held)))))] U.heap ∧ va_K (dC, dI) vwCl [(k_t_held, .object "PointRings$Curve")] U ∧ nw_all U)) (vp_Si (fun r => r = rr)) 0 0 (fun _ => False) := by
  refine Met.ofW (cc := cX5_root) (maxL := 4) (ret := (some .int)) (by decide) rfl ?_
  intro p e s m args below meth c s₁ B hml hv
  obtain ⟨rfl, hP, hK, hN⟩ := hv
  have hx := B.exec
  have hb := B.bytes
  have hr := B.returns
  have hts := atoms_spec (ws := wsX5_root_n) B.pre
  have hown : s.vm.findClass RX5 = some m.cls := findClass_of_methodNamed B.named
  have hlocks := B.notSynchronized
  have hl := lv_entry ([.ref h0, .int a0, .int a1]) (n := 4) (Nat.le_of_ble_eq_true rfl)
  rw [lg_entry_eq]
  generalize (lg_sl ([.ref h0, .int a0, .int a1]) ++ List.replicate (4 - (lg_sl ([.ref h0, .int a0, .int a1])).length) Slot.unset).toArray = ls at hl ⊢
  have hl : lv_has ls 4 [(0, .ref h0), (1, .int a0), (2, .int a1)] := hl
  dsimp only [mX5_root_n] at h
  refine lv_aload_n hx hb dX5_root_0 rfl (lv_at hl 0 rfl) ?_
  refine lv_iload_n hx hb dX5_root_1 rfl (lv_at hl 1 rfl) ?_
  have hPc := hP.sub (ws' := [(h0, .inr (4, [.ref h0_held, .int t_size, .ref h0_survey])), (h0_held, .inl (k_t_held, 24, .inr (.inr (.inr (.inr t_held)))))]) [0, 1] rfl
  have hKc := hK.sub (tys' := [(k_t_held, .object "PointRings$Curve")]) [0] rfl
  refine va_csq (W.runV (As := [.int a0]) (rest := []) ⟨hx, hb, hml, hown, hts⟩ (ctX5_at l N dC dI  h0 h0_held h0_survey k_t_held t_size t_held a0 none hk0) (cwV 1 hts gX5_root_n_X5_at rfl rfl rfl (by decide +kernel) ⟨Nat.le_of_ble_eq_true rfl, Nat.le_of_ble_eq_true rfl⟩) ⟨fun a U g mk q => by obtain ⟨q0, qP, qK, qN⟩ := q; exact ⟨q0, qP, va_K.moved (u := U) (U := U.calling g mk a) (Vm.Alike.refl U.vm) qK, nw_same (u := U) (U := U.calling g mk a) rfl qN⟩, va_recv hKc hPc (ci := 4) (q0 := 0) rfl rfl, fun U hU hW => ⟨rfl, by rw [hU]; exact hPc, va_K.moved hW.alike hKc, nw_warm hW hN⟩⟩ rfl rfl hl.1 rfl (lv_room (Nat.le_of_ble_eq_true rfl)) dX5_root_2 ⟨Nat.le_of_ble_eq_true rfl, Nat.le_of_ble_eq_true rfl⟩) (fun q9 eq9 => ?_)
  subst q9
  refine lv_astore_nN (lv' := [(3, .null), (0, .ref h0), (1, .int a0), (2, .int a1)]) hx hb dX5_root_5 rfl hl (by decide) rfl (fun ls hl => ?_)
  refine lv_aload_nN hx hb dX5_root_6 rfl (lv_at hl 0 rfl) ?_
  refine lv_ifnonnullN hx hb dX5_root_7 ?_
  refine lv_bipush (v := (-2)) hx hb dX5_root_10 (by decide) ?_
  refine lv_goto (tgt := 34) hx hb dX5_root_12 (by decide) ?_
  have hv : (-2) = rr := Option.some.inj h
  exact W.iret (v := (-2)) hx hb hr (fun t ht hW => ⟨_, rfl, hv, ht⟩) (fun q hq => absurd hq List.not_mem_nil) dX5_root_34
def wsX5_inverse_n : List Cond := .code yX5_inverse cX5_inverse 5 (some .int) :: (([] : List Cond) ++ ((wsV RX5 47 RX5 yX5_at wsX5_at)))
set_option maxRecDepth 20000 in
theorem gX5_inverse_n_X5_at : GoodIn wsX5_inverse_n (wsV RX5 47 RX5 yX5_at wsX5_at) := goodIn_sub (fun w h => List.mem_cons_of_mem _ (List.mem_append_right _ (h))) (by decide +kernel)
def mX5_inverse_n (N : Nat) (a0 : Int32) (a1 : Int32) : Option (Int32) := some (-2)
abbrev rmX5_inverse_n : Room := { frames := 1, cells := 0, slots := 0, locals := 21 }
set_option maxHeartbeats 4000000 in
set_option maxRecDepth 100000 in
theorem ctX5_inverse_n (l : Launch) (N : Nat) (dC : Nat → ClassId) (dI : Nat → Nat → Nat) (h0 : Nat) (h0_held : Nat) (h0_survey : Nat) (k_t_held : ClassId) (t_size : Int32) (t_held : Nat → Option Nat) (a0 : Int32) (a1 : Int32) (rr : Int32) (h : mX5_inverse_n N a0 a1 = some rr) (hk0 : mX5_at N t_size t_held a0 = some none) : Met l yX5_inverse wsX5_inverse_n rmX5_inverse_n (va_Pc [.ref h0, .int a0, .int a1] (fun U => va_P (dC, dI) vwCl [(h0, .inr (4, [.ref h0_held, .int t_size, .ref h0_survey])), (h0_held, .inl (k_t_held, 24, .inr (.inr (.inr (.inr t_held)))))] U.heap ∧ va_K (dC, dI) vwCl [(k_t_held, .object "PointRings$Curve")] U ∧ nw_all U)) (vp_Si (fun r => r = rr)) 0 0 (fun _ => False) := by
  refine Met.ofW (cc := cX5_inverse) (maxL := 5) (ret := (some .int)) (by decide) rfl ?_
  intro p e s m args below meth c s₁ B hml hv
  obtain ⟨rfl, hP, hK, hN⟩ := hv
  have hx := B.exec
  have hb := B.bytes
  have hr := B.returns
  have hts := atoms_spec (ws := wsX5_inverse_n) B.pre
  have hown : s.vm.findClass RX5 = some m.cls := findClass_of_methodNamed B.named
  have hlocks := B.notSynchronized
  have hl := lv_entry ([.ref h0, .int a0, .int a1]) (n := 5) (Nat.le_of_ble_eq_true rfl)
  rw [lg_entry_eq]
  generalize (lg_sl ([.ref h0, .int a0, .int a1]) ++ List.replicate (5 - (lg_sl ([.ref h0, .int a0, .int a1])).length) Slot.unset).toArray = ls at hl ⊢
  have hl : lv_has ls 5 [(0, .ref h0), (1, .int a0), (2, .int a1)] := hl
  dsimp only [mX5_inverse_n] at h
  refine lv_aload_n hx hb dX5_inverse_0 rfl (lv_at hl 0 rfl) ?_
  refine lv_iload_n hx hb dX5_inverse_1 rfl (lv_at hl 1 rfl) ?_
  have hPc := hP.sub (ws' := [(h0, .inr (4, [.ref h0_held, .int t_size, .ref h0_survey])), (h0_held, .inl (k_t_held, 24, .inr (.inr (.inr (.inr t_held)))))]) [0, 1] rfl
  have hKc := hK.sub (tys' := [(k_t_held, .object "PointRings$Curve")]) [0] rfl
  refine va_csq (W.runV (As := [.int a0]) (rest := []) ⟨hx, hb, hml, hown, hts⟩ (ctX5_at l N dC dI  h0 h0_held h0_survey k_t_held t_size t_held a0 none hk0) (cwV 1 hts gX5_inverse_n_X5_at rfl rfl rfl (by decide +kernel) ⟨Nat.le_of_ble_eq_true rfl, Nat.le_of_ble_eq_true rfl⟩) ⟨fun a U g mk q => by obtain ⟨q0, qP, qK, qN⟩ := q; exact ⟨q0, qP, va_K.moved (u := U) (U := U.calling g mk a) (Vm.Alike.refl U.vm) qK, nw_same (u := U) (U := U.calling g mk a) rfl qN⟩, va_recv hKc hPc (ci := 4) (q0 := 0) rfl rfl, fun U hU hW => ⟨rfl, by rw [hU]; exact hPc, va_K.moved hW.alike hKc, nw_warm hW hN⟩⟩ rfl rfl hl.1 rfl (lv_room (Nat.le_of_ble_eq_true rfl)) dX5_inverse_2 ⟨Nat.le_of_ble_eq_true rfl, Nat.le_of_ble_eq_true rfl⟩) (fun q9 eq9 => ?_)
  subst q9
  refine lv_astore_nN (lv' := [(3, .null), (0, .ref h0), (1, .int a0), (2, .int a1)]) hx hb dX5_inverse_5 rfl hl (by decide) rfl (fun ls hl => ?_)
  refine lv_aload_nN hx hb dX5_inverse_6 rfl (lv_at hl 0 rfl) ?_
  refine lv_ifnonnullN hx hb dX5_inverse_7 ?_
  refine lv_bipush (v := (-2)) hx hb dX5_inverse_10 (by decide) ?_
  have hv : (-2) = rr := Option.some.inj h
  exact W.iret (v := (-2)) hx hb hr (fun t ht hW => ⟨_, rfl, hv, ht⟩) (fun q hq => absurd hq List.not_mem_nil) dX5_inverse_12
def wsX5_power_n : List Cond := .code yX5_power cX5_power 6 (some .int) :: (([] : List Cond) ++ ((wsV RX5 47 RX5 yX5_at wsX5_at)))
set_option maxRecDepth 20000 in
theorem gX5_power_n_X5_at : GoodIn wsX5_power_n (wsV RX5 47 RX5 yX5_at wsX5_at) := goodIn_sub (fun w h => List.mem_cons_of_mem _ (List.mem_append_right _ (h))) (by decide +kernel)
def mX5_power_n (N : Nat) (a0 : Int32) (a1 : Int32) (a2 : Int64) : Option (Int32) := some (-2)
abbrev rmX5_power_n : Room := { frames := 1, cells := 0, slots := 0, locals := 21 }
set_option maxHeartbeats 4000000 in
set_option maxRecDepth 100000 in
theorem ctX5_power_n (l : Launch) (N : Nat) (dC : Nat → ClassId) (dI : Nat → Nat → Nat) (h0 : Nat) (h0_held : Nat) (h0_survey : Nat) (k_t_held : ClassId) (t_size : Int32) (t_held : Nat → Option Nat) (a0 : Int32) (a1 : Int32) (a2 : Int64) (rr : Int32) (h : mX5_power_n N a0 a1 a2 = some rr) (hk0 : mX5_at N t_size t_held a0 = some none) : Met l yX5_power wsX5_power_n rmX5_power_n (va_Pc [.ref h0, .int a0, .int a1, .long a2] (fun U => va_P (dC, dI) vwCl [(h0, .inr (4, [.ref h0_held, .int t_size, .ref h0_survey])), (h0_held, .inl (k_t_held, 24, .inr (.inr (.inr (.inr t_held)))))] U.heap ∧ va_K (dC, dI) vwCl [(k_t_held, .object "PointRings$Curve")] U ∧ nw_all U)) (vp_Si (fun r => r = rr)) 0 0 (fun _ => False) := by
  refine Met.ofW (cc := cX5_power) (maxL := 6) (ret := (some .int)) (by decide) rfl ?_
  intro p e s m args below meth c s₁ B hml hv
  obtain ⟨rfl, hP, hK, hN⟩ := hv
  have hx := B.exec
  have hb := B.bytes
  have hr := B.returns
  have hts := atoms_spec (ws := wsX5_power_n) B.pre
  have hown : s.vm.findClass RX5 = some m.cls := findClass_of_methodNamed B.named
  have hlocks := B.notSynchronized
  have hl := lv_entry ([.ref h0, .int a0, .int a1, .long a2]) (n := 6) (Nat.le_of_ble_eq_true rfl)
  rw [lg_entry_eq]
  generalize (lg_sl ([.ref h0, .int a0, .int a1, .long a2]) ++ List.replicate (6 - (lg_sl ([.ref h0, .int a0, .int a1, .long a2])).length) Slot.unset).toArray = ls at hl ⊢
  have hl : lv_has ls 6 [(0, .ref h0), (1, .int a0), (2, .int a1), (3, .long a2)] := hl
  dsimp only [mX5_power_n] at h
  refine lv_aload_n hx hb dX5_power_0 rfl (lv_at hl 0 rfl) ?_
  refine lv_iload_n hx hb dX5_power_1 rfl (lv_at hl 1 rfl) ?_
  have hPc := hP.sub (ws' := [(h0, .inr (4, [.ref h0_held, .int t_size, .ref h0_survey])), (h0_held, .inl (k_t_held, 24, .inr (.inr (.inr (.inr t_held)))))]) [0, 1] rfl
  have hKc := hK.sub (tys' := [(k_t_held, .object "PointRings$Curve")]) [0] rfl
  refine va_csq (W.runV (As := [.int a0]) (rest := []) ⟨hx, hb, hml, hown, hts⟩ (ctX5_at l N dC dI  h0 h0_held h0_survey k_t_held t_size t_held a0 none hk0) (cwV 1 hts gX5_power_n_X5_at rfl rfl rfl (by decide +kernel) ⟨Nat.le_of_ble_eq_true rfl, Nat.le_of_ble_eq_true rfl⟩) ⟨fun a U g mk q => by obtain ⟨q0, qP, qK, qN⟩ := q; exact ⟨q0, qP, va_K.moved (u := U) (U := U.calling g mk a) (Vm.Alike.refl U.vm) qK, nw_same (u := U) (U := U.calling g mk a) rfl qN⟩, va_recv hKc hPc (ci := 4) (q0 := 0) rfl rfl, fun U hU hW => ⟨rfl, by rw [hU]; exact hPc, va_K.moved hW.alike hKc, nw_warm hW hN⟩⟩ rfl rfl hl.1 rfl (lv_room (Nat.le_of_ble_eq_true rfl)) dX5_power_2 ⟨Nat.le_of_ble_eq_true rfl, Nat.le_of_ble_eq_true rfl⟩) (fun q9 eq9 => ?_)
  subst q9
  refine lv_astoreN (lv' := [(5, .null), (0, .ref h0), (1, .int a0), (2, .int a1), (3, .long a2)]) hx hb dX5_power_5 hl (by decide) rfl (fun ls hl => ?_)
  refine lv_aloadN hx hb dX5_power_7 (lv_at hl 0 rfl) ?_
  refine lv_ifnullN (tgt := 18) hx hb dX5_power_9 (by decide) ?_
  refine lv_bipush (v := (-2)) hx hb dX5_power_18 (by decide) ?_
  have hv : (-2) = rr := Option.some.inj h
  exact W.iret (v := (-2)) hx hb hr (fun t ht hW => ⟨_, rfl, hv, ht⟩) (fun q hq => absurd hq List.not_mem_nil) dX5_power_20
def wsX5_generator_n : List Cond := .code yX5_generator cX5_generator 3 (some .int) :: (([] : List Cond) ++ ((wsV RX5 47 RX5 yX5_at wsX5_at)))
set_option maxRecDepth 20000 in
theorem gX5_generator_n_X5_at : GoodIn wsX5_generator_n (wsV RX5 47 RX5 yX5_at wsX5_at) := goodIn_sub (fun w h => List.mem_cons_of_mem _ (List.mem_append_right _ (h))) (by decide +kernel)
def mX5_generator_n (N : Nat) (a0 : Int32) : Option (Int32) := some (-2)
abbrev rmX5_generator_n : Room := { frames := 1, cells := 0, slots := 0, locals := 21 }
set_option maxHeartbeats 4000000 in
set_option maxRecDepth 100000 in
theorem ctX5_generator_n (l : Launch) (N : Nat) (dC : Nat → ClassId) (dI : Nat → Nat → Nat) (h0 : Nat) (h0_held : Nat) (h0_survey : Nat) (k_t_held : ClassId) (t_size : Int32) (t_held : Nat → Option Nat) (a0 : Int32) (rr : Int32) (h : mX5_generator_n N a0 = some rr) (hk0 : mX5_at N t_size t_held a0 = some none) : Met l yX5_generator wsX5_generator_n rmX5_generator_n (va_Pc [.ref h0, .int a0] (fun U => va_P (dC, dI) vwCl [(h0, .inr (4, [.ref h0_held, .int t_size, .ref h0_survey])), (h0_held, .inl (k_t_held, 24, .inr (.inr (.inr (.inr t_held)))))] U.heap ∧ va_K (dC, dI) vwCl [(k_t_held, .object "PointRings$Curve")] U ∧ nw_all U)) (vp_Si (fun r => r = rr)) 0 0 (fun _ => False) := by
  refine Met.ofW (cc := cX5_generator) (maxL := 3) (ret := (some .int)) (by decide) rfl ?_
  intro p e s m args below meth c s₁ B hml hv
  obtain ⟨rfl, hP, hK, hN⟩ := hv
  have hx := B.exec
  have hb := B.bytes
  have hr := B.returns
  have hts := atoms_spec (ws := wsX5_generator_n) B.pre
  have hown : s.vm.findClass RX5 = some m.cls := findClass_of_methodNamed B.named
  have hlocks := B.notSynchronized
  have hl := lv_entry ([.ref h0, .int a0]) (n := 3) (Nat.le_of_ble_eq_true rfl)
  rw [lg_entry_eq]
  generalize (lg_sl ([.ref h0, .int a0]) ++ List.replicate (3 - (lg_sl ([.ref h0, .int a0])).length) Slot.unset).toArray = ls at hl ⊢
  have hl : lv_has ls 3 [(0, .ref h0), (1, .int a0)] := hl
  dsimp only [mX5_generator_n] at h
  refine lv_aload_n hx hb dX5_generator_0 rfl (lv_at hl 0 rfl) ?_
  refine lv_iload_n hx hb dX5_generator_1 rfl (lv_at hl 1 rfl) ?_
  have hPc := hP.sub (ws' := [(h0, .inr (4, [.ref h0_held, .int t_size, .ref h0_survey])), (h0_held, .inl (k_t_held, 24, .inr (.inr (.inr (.inr t_held)))))]) [0, 1] rfl
  have hKc := hK.sub (tys' := [(k_t_held, .object "PointRings$Curve")]) [0] rfl
  refine va_csq (W.runV (As := [.int a0]) (rest := []) ⟨hx, hb, hml, hown, hts⟩ (ctX5_at l N dC dI  h0 h0_held h0_survey k_t_held t_size t_held a0 none hk0) (cwV 1 hts gX5_generator_n_X5_at rfl rfl rfl (by decide +kernel) ⟨Nat.le_of_ble_eq_true rfl, Nat.le_of_ble_eq_true rfl⟩) ⟨fun a U g mk q => by obtain ⟨q0, qP, qK, qN⟩ := q; exact ⟨q0, qP, va_K.moved (u := U) (U := U.calling g mk a) (Vm.Alike.refl U.vm) qK, nw_same (u := U) (U := U.calling g mk a) rfl qN⟩, va_recv hKc hPc (ci := 4) (q0 := 0) rfl rfl, fun U hU hW => ⟨rfl, by rw [hU]; exact hPc, va_K.moved hW.alike hKc, nw_warm hW hN⟩⟩ rfl rfl hl.1 rfl (lv_room (Nat.le_of_ble_eq_true rfl)) dX5_generator_2 ⟨Nat.le_of_ble_eq_true rfl, Nat.le_of_ble_eq_true rfl⟩) (fun q9 eq9 => ?_)
  subst q9
  refine lv_astore_nN (lv' := [(2, .null), (0, .ref h0), (1, .int a0)]) hx hb dX5_generator_5 rfl hl (by decide) rfl (fun ls hl => ?_)
  refine lv_aload_nN hx hb dX5_generator_6 rfl (lv_at hl 0 rfl) ?_
  refine lv_ifnonnullN hx hb dX5_generator_7 ?_
  refine lv_bipush (v := (-2)) hx hb dX5_generator_10 (by decide) ?_
  refine lv_goto (tgt := 22) hx hb dX5_generator_12 (by decide) ?_
  have hv : (-2) = rr := Option.some.inj h
  exact W.iret (v := (-2)) hx hb hr (fun t ht hW => ⟨_, rfl, hv, ht⟩) (fun q hq => absurd hq List.not_mem_nil) dX5_generator_22
def wsX5_point_n : List Cond := .code yX5_point cX5_point 5 (some .int) :: (([] : List Cond) ++ ((wsV RX5 47 RX5 yX5_at wsX5_at)))
set_option maxRecDepth 20000 in
theorem gX5_point_n_X5_at : GoodIn wsX5_point_n (wsV RX5 47 RX5 yX5_at wsX5_at) := goodIn_sub (fun w h => List.mem_cons_of_mem _ (List.mem_append_right _ (h))) (by decide +kernel)
def mX5_point_n (N : Nat) (a0 : Int32) (a1 : Int32) (a2 : Int32) : Option (Int32) := some (-2)
abbrev rmX5_point_n : Room := { frames := 1, cells := 0, slots := 0, locals := 21 }
set_option maxHeartbeats 4000000 in
set_option maxRecDepth 100000 in
theorem ctX5_point_n (l : Launch) (N : Nat) (dC : Nat → ClassId) (dI : Nat → Nat → Nat) (h0 : Nat) (h0_held : Nat) (h0_survey : Nat) (k_t_held : ClassId) (t_size : Int32) (t_held : Nat → Option Nat) (a0 : Int32) (a1 : Int32) (a2 : Int32) (rr : Int32) (h : mX5_point_n N a0 a1 a2 = some rr) (hk0 : mX5_at N t_size t_held a0 = some none) : Met l yX5_point wsX5_point_n rmX5_point_n (va_Pc [.ref h0, .int a0, .int a1, .int a2] (fun U => va_P (dC, dI) vwCl [(h0, .inr (4, [.ref h0_held, .int t_size, .ref h0_survey])), (h0_held, .inl (k_t_held, 24, .inr (.inr (.inr (.inr t_held)))))] U.heap ∧ va_K (dC, dI) vwCl [(k_t_held, .object "PointRings$Curve")] U ∧ nw_all U)) (vp_Si (fun r => r = rr)) 0 0 (fun _ => False) := by
  refine Met.ofW (cc := cX5_point) (maxL := 5) (ret := (some .int)) (by decide) rfl ?_
  intro p e s m args below meth c s₁ B hml hv
  obtain ⟨rfl, hP, hK, hN⟩ := hv
  have hx := B.exec
  have hb := B.bytes
  have hr := B.returns
  have hts := atoms_spec (ws := wsX5_point_n) B.pre
  have hown : s.vm.findClass RX5 = some m.cls := findClass_of_methodNamed B.named
  have hlocks := B.notSynchronized
  have hl := lv_entry ([.ref h0, .int a0, .int a1, .int a2]) (n := 5) (Nat.le_of_ble_eq_true rfl)
  rw [lg_entry_eq]
  generalize (lg_sl ([.ref h0, .int a0, .int a1, .int a2]) ++ List.replicate (5 - (lg_sl ([.ref h0, .int a0, .int a1, .int a2])).length) Slot.unset).toArray = ls at hl ⊢
  have hl : lv_has ls 5 [(0, .ref h0), (1, .int a0), (2, .int a1), (3, .int a2)] := hl
  dsimp only [mX5_point_n] at h
  refine lv_aload_n hx hb dX5_point_0 rfl (lv_at hl 0 rfl) ?_
  refine lv_iload_n hx hb dX5_point_1 rfl (lv_at hl 1 rfl) ?_
  have hPc := hP.sub (ws' := [(h0, .inr (4, [.ref h0_held, .int t_size, .ref h0_survey])), (h0_held, .inl (k_t_held, 24, .inr (.inr (.inr (.inr t_held)))))]) [0, 1] rfl
  have hKc := hK.sub (tys' := [(k_t_held, .object "PointRings$Curve")]) [0] rfl
  refine va_csq (W.runV (As := [.int a0]) (rest := []) ⟨hx, hb, hml, hown, hts⟩ (ctX5_at l N dC dI  h0 h0_held h0_survey k_t_held t_size t_held a0 none hk0) (cwV 1 hts gX5_point_n_X5_at rfl rfl rfl (by decide +kernel) ⟨Nat.le_of_ble_eq_true rfl, Nat.le_of_ble_eq_true rfl⟩) ⟨fun a U g mk q => by obtain ⟨q0, qP, qK, qN⟩ := q; exact ⟨q0, qP, va_K.moved (u := U) (U := U.calling g mk a) (Vm.Alike.refl U.vm) qK, nw_same (u := U) (U := U.calling g mk a) rfl qN⟩, va_recv hKc hPc (ci := 4) (q0 := 0) rfl rfl, fun U hU hW => ⟨rfl, by rw [hU]; exact hPc, va_K.moved hW.alike hKc, nw_warm hW hN⟩⟩ rfl rfl hl.1 rfl (lv_room (Nat.le_of_ble_eq_true rfl)) dX5_point_2 ⟨Nat.le_of_ble_eq_true rfl, Nat.le_of_ble_eq_true rfl⟩) (fun q9 eq9 => ?_)
  subst q9
  refine lv_astoreN (lv' := [(4, .null), (0, .ref h0), (1, .int a0), (2, .int a1), (3, .int a2)]) hx hb dX5_point_5 hl (by decide) rfl (fun ls hl => ?_)
  refine lv_aloadN hx hb dX5_point_7 (lv_at hl 0 rfl) ?_
  refine lv_ifnullN (tgt := 36) hx hb dX5_point_9 (by decide) ?_
  refine lv_bipush (v := (-2)) hx hb dX5_point_36 (by decide) ?_
  have hv : (-2) = rr := Option.some.inj h
  exact W.iret (v := (-2)) hx hb hr (fun t ht hW => ⟨_, rfl, hv, ht⟩) (fun q hq => absurd hq List.not_mem_nil) dX5_point_38
def wsX5_lift_n : List Cond := .code yX5_lift cX5_lift 6 (some .int) :: (([] : List Cond) ++ ((wsV RX5 47 RX5 yX5_at wsX5_at)))
set_option maxRecDepth 20000 in
theorem gX5_lift_n_X5_at : GoodIn wsX5_lift_n (wsV RX5 47 RX5 yX5_at wsX5_at) := goodIn_sub (fun w h => List.mem_cons_of_mem _ (List.mem_append_right _ (h))) (by decide +kernel)
def mX5_lift_n (N : Nat) (a0 : Int32) (a1 : Int32) (a2 : Int32) : Option (Int32) := some (-2)
abbrev rmX5_lift_n : Room := { frames := 1, cells := 0, slots := 0, locals := 21 }
set_option maxHeartbeats 4000000 in
set_option maxRecDepth 100000 in
theorem ctX5_lift_n (l : Launch) (N : Nat) (dC : Nat → ClassId) (dI : Nat → Nat → Nat) (h0 : Nat) (h0_held : Nat) (h0_survey : Nat) (k_t_held : ClassId) (t_size : Int32) (t_held : Nat → Option Nat) (a0 : Int32) (a1 : Int32) (a2 : Int32) (rr : Int32) (h : mX5_lift_n N a0 a1 a2 = some rr) (hk0 : mX5_at N t_size t_held a0 = some none) : Met l yX5_lift wsX5_lift_n rmX5_lift_n (va_Pc [.ref h0, .int a0, .int a1, .int a2] (fun U => va_P (dC, dI) vwCl [(h0, .inr (4, [.ref h0_held, .int t_size, .ref h0_survey])), (h0_held, .inl (k_t_held, 24, .inr (.inr (.inr (.inr t_held)))))] U.heap ∧ va_K (dC, dI) vwCl [(k_t_held, .object "PointRings$Curve")] U ∧ nw_all U)) (vp_Si (fun r => r = rr)) 0 0 (fun _ => False) := by
  refine Met.ofW (cc := cX5_lift) (maxL := 6) (ret := (some .int)) (by decide) rfl ?_
  intro p e s m args below meth c s₁ B hml hv
  obtain ⟨rfl, hP, hK, hN⟩ := hv
  have hx := B.exec
  have hb := B.bytes
  have hr := B.returns
  have hts := atoms_spec (ws := wsX5_lift_n) B.pre
  have hown : s.vm.findClass RX5 = some m.cls := findClass_of_methodNamed B.named
  have hlocks := B.notSynchronized
  have hl := lv_entry ([.ref h0, .int a0, .int a1, .int a2]) (n := 6) (Nat.le_of_ble_eq_true rfl)
  rw [lg_entry_eq]
  generalize (lg_sl ([.ref h0, .int a0, .int a1, .int a2]) ++ List.replicate (6 - (lg_sl ([.ref h0, .int a0, .int a1, .int a2])).length) Slot.unset).toArray = ls at hl ⊢
  have hl : lv_has ls 6 [(0, .ref h0), (1, .int a0), (2, .int a1), (3, .int a2)] := hl
  dsimp only [mX5_lift_n] at h
  refine lv_aload_n hx hb dX5_lift_0 rfl (lv_at hl 0 rfl) ?_
  refine lv_iload_n hx hb dX5_lift_1 rfl (lv_at hl 1 rfl) ?_
  have hPc := hP.sub (ws' := [(h0, .inr (4, [.ref h0_held, .int t_size, .ref h0_survey])), (h0_held, .inl (k_t_held, 24, .inr (.inr (.inr (.inr t_held)))))]) [0, 1] rfl
  have hKc := hK.sub (tys' := [(k_t_held, .object "PointRings$Curve")]) [0] rfl
  refine va_csq (W.runV (As := [.int a0]) (rest := []) ⟨hx, hb, hml, hown, hts⟩ (ctX5_at l N dC dI  h0 h0_held h0_survey k_t_held t_size t_held a0 none hk0) (cwV 1 hts gX5_lift_n_X5_at rfl rfl rfl (by decide +kernel) ⟨Nat.le_of_ble_eq_true rfl, Nat.le_of_ble_eq_true rfl⟩) ⟨fun a U g mk q => by obtain ⟨q0, qP, qK, qN⟩ := q; exact ⟨q0, qP, va_K.moved (u := U) (U := U.calling g mk a) (Vm.Alike.refl U.vm) qK, nw_same (u := U) (U := U.calling g mk a) rfl qN⟩, va_recv hKc hPc (ci := 4) (q0 := 0) rfl rfl, fun U hU hW => ⟨rfl, by rw [hU]; exact hPc, va_K.moved hW.alike hKc, nw_warm hW hN⟩⟩ rfl rfl hl.1 rfl (lv_room (Nat.le_of_ble_eq_true rfl)) dX5_lift_2 ⟨Nat.le_of_ble_eq_true rfl, Nat.le_of_ble_eq_true rfl⟩) (fun q9 eq9 => ?_)
  subst q9
  refine lv_astoreN (lv' := [(4, .null), (0, .ref h0), (1, .int a0), (2, .int a1), (3, .int a2)]) hx hb dX5_lift_5 hl (by decide) rfl (fun ls hl => ?_)
  refine lv_aloadN hx hb dX5_lift_7 (lv_at hl 0 rfl) ?_
  refine lv_ifnullN (tgt := 24) hx hb dX5_lift_9 (by decide) ?_
  refine lv_bipush (v := (-2)) hx hb dX5_lift_24 (by decide) ?_
  have hv : (-2) = rr := Option.some.inj h
  exact W.iret (v := (-2)) hx hb hr (fun t ht hW => ⟨_, rfl, hv, ht⟩) (fun q hq => absurd hq List.not_mem_nil) dX5_lift_26
def wsX5_near_n : List Cond := .code yX5_near cX5_near 7 (some .int) :: (([] : List Cond) ++ ((wsV RX5 47 RX5 yX5_at wsX5_at)))
set_option maxRecDepth 20000 in
theorem gX5_near_n_X5_at : GoodIn wsX5_near_n (wsV RX5 47 RX5 yX5_at wsX5_at) := goodIn_sub (fun w h => List.mem_cons_of_mem _ (List.mem_append_right _ (h))) (by decide +kernel)
def mX5_near_n (N : Nat) (a0 : Int32) (a1 : Int32) : Option (Int32) := some (-2)
abbrev rmX5_near_n : Room := { frames := 1, cells := 0, slots := 0, locals := 21 }
set_option maxHeartbeats 4000000 in
set_option maxRecDepth 100000 in
theorem ctX5_near_n (l : Launch) (N : Nat) (dC : Nat → ClassId) (dI : Nat → Nat → Nat) (h0 : Nat) (h0_held : Nat) (h0_survey : Nat) (k_t_held : ClassId) (t_size : Int32) (t_held : Nat → Option Nat) (a0 : Int32) (a1 : Int32) (rr : Int32) (h : mX5_near_n N a0 a1 = some rr) (hk0 : mX5_at N t_size t_held a0 = some none) : Met l yX5_near wsX5_near_n rmX5_near_n (va_Pc [.ref h0, .int a0, .int a1] (fun U => va_P (dC, dI) vwCl [(h0, .inr (4, [.ref h0_held, .int t_size, .ref h0_survey])), (h0_held, .inl (k_t_held, 24, .inr (.inr (.inr (.inr t_held)))))] U.heap ∧ va_K (dC, dI) vwCl [(k_t_held, .object "PointRings$Curve")] U ∧ nw_all U)) (vp_Si (fun r => r = rr)) 0 0 (fun _ => False) := by
  refine Met.ofW (cc := cX5_near) (maxL := 7) (ret := (some .int)) (by decide) rfl ?_
  intro p e s m args below meth c s₁ B hml hv
  obtain ⟨rfl, hP, hK, hN⟩ := hv
  have hx := B.exec
  have hb := B.bytes
  have hr := B.returns
  have hts := atoms_spec (ws := wsX5_near_n) B.pre
  have hown : s.vm.findClass RX5 = some m.cls := findClass_of_methodNamed B.named
  have hlocks := B.notSynchronized
  have hl := lv_entry ([.ref h0, .int a0, .int a1]) (n := 7) (Nat.le_of_ble_eq_true rfl)
  rw [lg_entry_eq]
  generalize (lg_sl ([.ref h0, .int a0, .int a1]) ++ List.replicate (7 - (lg_sl ([.ref h0, .int a0, .int a1])).length) Slot.unset).toArray = ls at hl ⊢
  have hl : lv_has ls 7 [(0, .ref h0), (1, .int a0), (2, .int a1)] := hl
  dsimp only [mX5_near_n] at h
  refine lv_aload_n hx hb dX5_near_0 rfl (lv_at hl 0 rfl) ?_
  refine lv_iload_n hx hb dX5_near_1 rfl (lv_at hl 1 rfl) ?_
  have hPc := hP.sub (ws' := [(h0, .inr (4, [.ref h0_held, .int t_size, .ref h0_survey])), (h0_held, .inl (k_t_held, 24, .inr (.inr (.inr (.inr t_held)))))]) [0, 1] rfl
  have hKc := hK.sub (tys' := [(k_t_held, .object "PointRings$Curve")]) [0] rfl
  refine va_csq (W.runV (As := [.int a0]) (rest := []) ⟨hx, hb, hml, hown, hts⟩ (ctX5_at l N dC dI  h0 h0_held h0_survey k_t_held t_size t_held a0 none hk0) (cwV 1 hts gX5_near_n_X5_at rfl rfl rfl (by decide +kernel) ⟨Nat.le_of_ble_eq_true rfl, Nat.le_of_ble_eq_true rfl⟩) ⟨fun a U g mk q => by obtain ⟨q0, qP, qK, qN⟩ := q; exact ⟨q0, qP, va_K.moved (u := U) (U := U.calling g mk a) (Vm.Alike.refl U.vm) qK, nw_same (u := U) (U := U.calling g mk a) rfl qN⟩, va_recv hKc hPc (ci := 4) (q0 := 0) rfl rfl, fun U hU hW => ⟨rfl, by rw [hU]; exact hPc, va_K.moved hW.alike hKc, nw_warm hW hN⟩⟩ rfl rfl hl.1 rfl (lv_room (Nat.le_of_ble_eq_true rfl)) dX5_near_2 ⟨Nat.le_of_ble_eq_true rfl, Nat.le_of_ble_eq_true rfl⟩) (fun q9 eq9 => ?_)
  subst q9
  refine lv_astore_nN (lv' := [(3, .null), (0, .ref h0), (1, .int a0), (2, .int a1)]) hx hb dX5_near_5 rfl hl (by decide) rfl (fun ls hl => ?_)
  refine lv_aload_nN hx hb dX5_near_6 rfl (lv_at hl 0 rfl) ?_
  refine lv_ifnonnullN hx hb dX5_near_7 ?_
  refine lv_bipush (v := (-2)) hx hb dX5_near_10 (by decide) ?_
  have hv : (-2) = rr := Option.some.inj h
  exact W.iret (v := (-2)) hx hb hr (fun t ht hW => ⟨_, rfl, hv, ht⟩) (fun q hq => absurd hq List.not_mem_nil) dX5_near_12
def wsX5_nth_n : List Cond := .code yX5_nth cX5_nth 4 (some .int) :: (([] : List Cond) ++ ((wsV RX5 47 RX5 yX5_at wsX5_at)))
set_option maxRecDepth 20000 in
theorem gX5_nth_n_X5_at : GoodIn wsX5_nth_n (wsV RX5 47 RX5 yX5_at wsX5_at) := goodIn_sub (fun w h => List.mem_cons_of_mem _ (List.mem_append_right _ (h))) (by decide +kernel)
def mX5_nth_n (N : Nat) (a0 : Int32) (a1 : Int32) : Option (Int32) := some (-2)
abbrev rmX5_nth_n : Room := { frames := 1, cells := 0, slots := 0, locals := 21 }
set_option maxHeartbeats 4000000 in
set_option maxRecDepth 100000 in
theorem ctX5_nth_n (l : Launch) (N : Nat) (dC : Nat → ClassId) (dI : Nat → Nat → Nat) (h0 : Nat) (h0_held : Nat) (h0_survey : Nat) (k_t_held : ClassId) (t_size : Int32) (t_held : Nat → Option Nat) (a0 : Int32) (a1 : Int32) (rr : Int32) (h : mX5_nth_n N a0 a1 = some rr) (hk0 : mX5_at N t_size t_held a0 = some none) : Met l yX5_nth wsX5_nth_n rmX5_nth_n (va_Pc [.ref h0, .int a0, .int a1] (fun U => va_P (dC, dI) vwCl [(h0, .inr (4, [.ref h0_held, .int t_size, .ref h0_survey])), (h0_held, .inl (k_t_held, 24, .inr (.inr (.inr (.inr t_held)))))] U.heap ∧ va_K (dC, dI) vwCl [(k_t_held, .object "PointRings$Curve")] U ∧ nw_all U)) (vp_Si (fun r => r = rr)) 0 0 (fun _ => False) := by
  refine Met.ofW (cc := cX5_nth) (maxL := 4) (ret := (some .int)) (by decide) rfl ?_
  intro p e s m args below meth c s₁ B hml hv
  obtain ⟨rfl, hP, hK, hN⟩ := hv
  have hx := B.exec
  have hb := B.bytes
  have hr := B.returns
  have hts := atoms_spec (ws := wsX5_nth_n) B.pre
  have hown : s.vm.findClass RX5 = some m.cls := findClass_of_methodNamed B.named
  have hlocks := B.notSynchronized
  have hl := lv_entry ([.ref h0, .int a0, .int a1]) (n := 4) (Nat.le_of_ble_eq_true rfl)
  rw [lg_entry_eq]
  generalize (lg_sl ([.ref h0, .int a0, .int a1]) ++ List.replicate (4 - (lg_sl ([.ref h0, .int a0, .int a1])).length) Slot.unset).toArray = ls at hl ⊢
  have hl : lv_has ls 4 [(0, .ref h0), (1, .int a0), (2, .int a1)] := hl
  dsimp only [mX5_nth_n] at h
  refine lv_aload_n hx hb dX5_nth_0 rfl (lv_at hl 0 rfl) ?_
  refine lv_iload_n hx hb dX5_nth_1 rfl (lv_at hl 1 rfl) ?_
  have hPc := hP.sub (ws' := [(h0, .inr (4, [.ref h0_held, .int t_size, .ref h0_survey])), (h0_held, .inl (k_t_held, 24, .inr (.inr (.inr (.inr t_held)))))]) [0, 1] rfl
  have hKc := hK.sub (tys' := [(k_t_held, .object "PointRings$Curve")]) [0] rfl
  refine va_csq (W.runV (As := [.int a0]) (rest := []) ⟨hx, hb, hml, hown, hts⟩ (ctX5_at l N dC dI  h0 h0_held h0_survey k_t_held t_size t_held a0 none hk0) (cwV 1 hts gX5_nth_n_X5_at rfl rfl rfl (by decide +kernel) ⟨Nat.le_of_ble_eq_true rfl, Nat.le_of_ble_eq_true rfl⟩) ⟨fun a U g mk q => by obtain ⟨q0, qP, qK, qN⟩ := q; exact ⟨q0, qP, va_K.moved (u := U) (U := U.calling g mk a) (Vm.Alike.refl U.vm) qK, nw_same (u := U) (U := U.calling g mk a) rfl qN⟩, va_recv hKc hPc (ci := 4) (q0 := 0) rfl rfl, fun U hU hW => ⟨rfl, by rw [hU]; exact hPc, va_K.moved hW.alike hKc, nw_warm hW hN⟩⟩ rfl rfl hl.1 rfl (lv_room (Nat.le_of_ble_eq_true rfl)) dX5_nth_2 ⟨Nat.le_of_ble_eq_true rfl, Nat.le_of_ble_eq_true rfl⟩) (fun q9 eq9 => ?_)
  subst q9
  refine lv_astore_nN (lv' := [(3, .null), (0, .ref h0), (1, .int a0), (2, .int a1)]) hx hb dX5_nth_5 rfl hl (by decide) rfl (fun ls hl => ?_)
  refine lv_aload_nN hx hb dX5_nth_6 rfl (lv_at hl 0 rfl) ?_
  refine lv_ifnonnullN hx hb dX5_nth_7 ?_
  refine lv_bipush (v := (-2)) hx hb dX5_nth_10 (by decide) ?_
  have hv : (-2) = rr := Option.some.inj h
  exact W.iret (v := (-2)) hx hb hr (fun t ht hW => ⟨_, rfl, hv, ht⟩) (fun q hq => absurd hq List.not_mem_nil) dX5_nth_12
def wsX5_rank_n : List Cond := .code yX5_rank cX5_rank 4 (some .int) :: (([] : List Cond) ++ ((wsV RX5 47 RX5 yX5_at wsX5_at)))
set_option maxRecDepth 20000 in
theorem gX5_rank_n_X5_at : GoodIn wsX5_rank_n (wsV RX5 47 RX5 yX5_at wsX5_at) := goodIn_sub (fun w h => List.mem_cons_of_mem _ (List.mem_append_right _ (h))) (by decide +kernel)
def mX5_rank_n (N : Nat) (a0 : Int32) (a1 : Int32) : Option (Int32) := some (-2)
abbrev rmX5_rank_n : Room := { frames := 1, cells := 0, slots := 0, locals := 21 }
set_option maxHeartbeats 4000000 in
set_option maxRecDepth 100000 in
theorem ctX5_rank_n (l : Launch) (N : Nat) (dC : Nat → ClassId) (dI : Nat → Nat → Nat) (h0 : Nat) (h0_held : Nat) (h0_survey : Nat) (k_t_held : ClassId) (t_size : Int32) (t_held : Nat → Option Nat) (a0 : Int32) (a1 : Int32) (rr : Int32) (h : mX5_rank_n N a0 a1 = some rr) (hk0 : mX5_at N t_size t_held a0 = some none) : Met l yX5_rank wsX5_rank_n rmX5_rank_n (va_Pc [.ref h0, .int a0, .int a1] (fun U => va_P (dC, dI) vwCl [(h0, .inr (4, [.ref h0_held, .int t_size, .ref h0_survey])), (h0_held, .inl (k_t_held, 24, .inr (.inr (.inr (.inr t_held)))))] U.heap ∧ va_K (dC, dI) vwCl [(k_t_held, .object "PointRings$Curve")] U ∧ nw_all U)) (vp_Si (fun r => r = rr)) 0 0 (fun _ => False) := by
  refine Met.ofW (cc := cX5_rank) (maxL := 4) (ret := (some .int)) (by decide) rfl ?_
  intro p e s m args below meth c s₁ B hml hv
  obtain ⟨rfl, hP, hK, hN⟩ := hv
  have hx := B.exec
  have hb := B.bytes
  have hr := B.returns
  have hts := atoms_spec (ws := wsX5_rank_n) B.pre
  have hown : s.vm.findClass RX5 = some m.cls := findClass_of_methodNamed B.named
  have hlocks := B.notSynchronized
  have hl := lv_entry ([.ref h0, .int a0, .int a1]) (n := 4) (Nat.le_of_ble_eq_true rfl)
  rw [lg_entry_eq]
  generalize (lg_sl ([.ref h0, .int a0, .int a1]) ++ List.replicate (4 - (lg_sl ([.ref h0, .int a0, .int a1])).length) Slot.unset).toArray = ls at hl ⊢
  have hl : lv_has ls 4 [(0, .ref h0), (1, .int a0), (2, .int a1)] := hl
  dsimp only [mX5_rank_n] at h
  refine lv_aload_n hx hb dX5_rank_0 rfl (lv_at hl 0 rfl) ?_
  refine lv_iload_n hx hb dX5_rank_1 rfl (lv_at hl 1 rfl) ?_
  have hPc := hP.sub (ws' := [(h0, .inr (4, [.ref h0_held, .int t_size, .ref h0_survey])), (h0_held, .inl (k_t_held, 24, .inr (.inr (.inr (.inr t_held)))))]) [0, 1] rfl
  have hKc := hK.sub (tys' := [(k_t_held, .object "PointRings$Curve")]) [0] rfl
  refine va_csq (W.runV (As := [.int a0]) (rest := []) ⟨hx, hb, hml, hown, hts⟩ (ctX5_at l N dC dI  h0 h0_held h0_survey k_t_held t_size t_held a0 none hk0) (cwV 1 hts gX5_rank_n_X5_at rfl rfl rfl (by decide +kernel) ⟨Nat.le_of_ble_eq_true rfl, Nat.le_of_ble_eq_true rfl⟩) ⟨fun a U g mk q => by obtain ⟨q0, qP, qK, qN⟩ := q; exact ⟨q0, qP, va_K.moved (u := U) (U := U.calling g mk a) (Vm.Alike.refl U.vm) qK, nw_same (u := U) (U := U.calling g mk a) rfl qN⟩, va_recv hKc hPc (ci := 4) (q0 := 0) rfl rfl, fun U hU hW => ⟨rfl, by rw [hU]; exact hPc, va_K.moved hW.alike hKc, nw_warm hW hN⟩⟩ rfl rfl hl.1 rfl (lv_room (Nat.le_of_ble_eq_true rfl)) dX5_rank_2 ⟨Nat.le_of_ble_eq_true rfl, Nat.le_of_ble_eq_true rfl⟩) (fun q9 eq9 => ?_)
  subst q9
  refine lv_astore_nN (lv' := [(3, .null), (0, .ref h0), (1, .int a0), (2, .int a1)]) hx hb dX5_rank_5 rfl hl (by decide) rfl (fun ls hl => ?_)
  refine lv_aload_nN hx hb dX5_rank_6 rfl (lv_at hl 0 rfl) ?_
  refine lv_ifnullN (tgt := 18) hx hb dX5_rank_7 (by decide) ?_
  refine lv_bipush (v := (-2)) hx hb dX5_rank_18 (by decide) ?_
  have hv : (-2) = rr := Option.some.inj h
  exact W.iret (v := (-2)) hx hb hr (fun t ht hW => ⟨_, rfl, hv, ht⟩) (fun q hq => absurd hq List.not_mem_nil) dX5_rank_20
def wsX5_add_n : List Cond := .code yX5_add cX5_add 5 (some .int) :: (([] : List Cond) ++ ((wsV RX5 47 RX5 yX5_at wsX5_at)))
set_option maxRecDepth 20000 in
theorem gX5_add_n_X5_at : GoodIn wsX5_add_n (wsV RX5 47 RX5 yX5_at wsX5_at) := goodIn_sub (fun w h => List.mem_cons_of_mem _ (List.mem_append_right _ (h))) (by decide +kernel)
def mX5_add_n (N : Nat) (a0 : Int32) (a1 : Int32) (a2 : Int32) : Option (Int32) := some (-2)
abbrev rmX5_add_n : Room := { frames := 1, cells := 0, slots := 0, locals := 21 }
set_option maxHeartbeats 4000000 in
set_option maxRecDepth 100000 in
theorem ctX5_add_n (l : Launch) (N : Nat) (dC : Nat → ClassId) (dI : Nat → Nat → Nat) (h0 : Nat) (h0_held : Nat) (h0_survey : Nat) (k_t_held : ClassId) (t_size : Int32) (t_held : Nat → Option Nat) (a0 : Int32) (a1 : Int32) (a2 : Int32) (rr : Int32) (h : mX5_add_n N a0 a1 a2 = some rr) (hk0 : mX5_at N t_size t_held a0 = some none) : Met l yX5_add wsX5_add_n rmX5_add_n (va_Pc [.ref h0, .int a0, .int a1, .int a2] (fun U => va_P (dC, dI) vwCl [(h0, .inr (4, [.ref h0_held, .int t_size, .ref h0_survey])), (h0_held, .inl (k_t_held, 24, .inr (.inr (.inr (.inr t_held)))))] U.heap ∧ va_K (dC, dI) vwCl [(k_t_held, .object "PointRings$Curve")] U ∧ nw_all U)) (vp_Si (fun r => r = rr)) 0 0 (fun _ => False) := by
  refine Met.ofW (cc := cX5_add) (maxL := 5) (ret := (some .int)) (by decide) rfl ?_
  intro p e s m args below meth c s₁ B hml hv
  obtain ⟨rfl, hP, hK, hN⟩ := hv
  have hx := B.exec
  have hb := B.bytes
  have hr := B.returns
  have hts := atoms_spec (ws := wsX5_add_n) B.pre
  have hown : s.vm.findClass RX5 = some m.cls := findClass_of_methodNamed B.named
  have hlocks := B.notSynchronized
  have hl := lv_entry ([.ref h0, .int a0, .int a1, .int a2]) (n := 5) (Nat.le_of_ble_eq_true rfl)
  rw [lg_entry_eq]
  generalize (lg_sl ([.ref h0, .int a0, .int a1, .int a2]) ++ List.replicate (5 - (lg_sl ([.ref h0, .int a0, .int a1, .int a2])).length) Slot.unset).toArray = ls at hl ⊢
  have hl : lv_has ls 5 [(0, .ref h0), (1, .int a0), (2, .int a1), (3, .int a2)] := hl
  dsimp only [mX5_add_n] at h
  refine lv_aload_n hx hb dX5_add_0 rfl (lv_at hl 0 rfl) ?_
  refine lv_iload_n hx hb dX5_add_1 rfl (lv_at hl 1 rfl) ?_
  have hPc := hP.sub (ws' := [(h0, .inr (4, [.ref h0_held, .int t_size, .ref h0_survey])), (h0_held, .inl (k_t_held, 24, .inr (.inr (.inr (.inr t_held)))))]) [0, 1] rfl
  have hKc := hK.sub (tys' := [(k_t_held, .object "PointRings$Curve")]) [0] rfl
  refine va_csq (W.runV (As := [.int a0]) (rest := []) ⟨hx, hb, hml, hown, hts⟩ (ctX5_at l N dC dI  h0 h0_held h0_survey k_t_held t_size t_held a0 none hk0) (cwV 1 hts gX5_add_n_X5_at rfl rfl rfl (by decide +kernel) ⟨Nat.le_of_ble_eq_true rfl, Nat.le_of_ble_eq_true rfl⟩) ⟨fun a U g mk q => by obtain ⟨q0, qP, qK, qN⟩ := q; exact ⟨q0, qP, va_K.moved (u := U) (U := U.calling g mk a) (Vm.Alike.refl U.vm) qK, nw_same (u := U) (U := U.calling g mk a) rfl qN⟩, va_recv hKc hPc (ci := 4) (q0 := 0) rfl rfl, fun U hU hW => ⟨rfl, by rw [hU]; exact hPc, va_K.moved hW.alike hKc, nw_warm hW hN⟩⟩ rfl rfl hl.1 rfl (lv_room (Nat.le_of_ble_eq_true rfl)) dX5_add_2 ⟨Nat.le_of_ble_eq_true rfl, Nat.le_of_ble_eq_true rfl⟩) (fun q9 eq9 => ?_)
  subst q9
  refine lv_astoreN (lv' := [(4, .null), (0, .ref h0), (1, .int a0), (2, .int a1), (3, .int a2)]) hx hb dX5_add_5 hl (by decide) rfl (fun ls hl => ?_)
  refine lv_aloadN hx hb dX5_add_7 (lv_at hl 0 rfl) ?_
  refine lv_ifnullN (tgt := 30) hx hb dX5_add_9 (by decide) ?_
  refine lv_bipush (v := (-2)) hx hb dX5_add_30 (by decide) ?_
  have hv : (-2) = rr := Option.some.inj h
  exact W.iret (v := (-2)) hx hb hr (fun t ht hW => ⟨_, rfl, hv, ht⟩) (fun q hq => absurd hq List.not_mem_nil) dX5_add_32
def wsX5_negative_n : List Cond := .code yX5_negative cX5_negative 4 (some .int) :: (([] : List Cond) ++ ((wsV RX5 47 RX5 yX5_at wsX5_at)))
set_option maxRecDepth 20000 in
theorem gX5_negative_n_X5_at : GoodIn wsX5_negative_n (wsV RX5 47 RX5 yX5_at wsX5_at) := goodIn_sub (fun w h => List.mem_cons_of_mem _ (List.mem_append_right _ (h))) (by decide +kernel)
def mX5_negative_n (N : Nat) (a0 : Int32) (a1 : Int32) : Option (Int32) := some (-2)
abbrev rmX5_negative_n : Room := { frames := 1, cells := 0, slots := 0, locals := 21 }
set_option maxHeartbeats 4000000 in
set_option maxRecDepth 100000 in
theorem ctX5_negative_n (l : Launch) (N : Nat) (dC : Nat → ClassId) (dI : Nat → Nat → Nat) (h0 : Nat) (h0_held : Nat) (h0_survey : Nat) (k_t_held : ClassId) (t_size : Int32) (t_held : Nat → Option Nat) (a0 : Int32) (a1 : Int32) (rr : Int32) (h : mX5_negative_n N a0 a1 = some rr) (hk0 : mX5_at N t_size t_held a0 = some none) : Met l yX5_negative wsX5_negative_n rmX5_negative_n (va_Pc [.ref h0, .int a0, .int a1] (fun U => va_P (dC, dI) vwCl [(h0, .inr (4, [.ref h0_held, .int t_size, .ref h0_survey])), (h0_held, .inl (k_t_held, 24, .inr (.inr (.inr (.inr t_held)))))] U.heap ∧ va_K (dC, dI) vwCl [(k_t_held, .object "PointRings$Curve")] U ∧ nw_all U)) (vp_Si (fun r => r = rr)) 0 0 (fun _ => False) := by
  refine Met.ofW (cc := cX5_negative) (maxL := 4) (ret := (some .int)) (by decide) rfl ?_
  intro p e s m args below meth c s₁ B hml hv
  obtain ⟨rfl, hP, hK, hN⟩ := hv
  have hx := B.exec
  have hb := B.bytes
  have hr := B.returns
  have hts := atoms_spec (ws := wsX5_negative_n) B.pre
  have hown : s.vm.findClass RX5 = some m.cls := findClass_of_methodNamed B.named
  have hlocks := B.notSynchronized
  have hl := lv_entry ([.ref h0, .int a0, .int a1]) (n := 4) (Nat.le_of_ble_eq_true rfl)
  rw [lg_entry_eq]
  generalize (lg_sl ([.ref h0, .int a0, .int a1]) ++ List.replicate (4 - (lg_sl ([.ref h0, .int a0, .int a1])).length) Slot.unset).toArray = ls at hl ⊢
  have hl : lv_has ls 4 [(0, .ref h0), (1, .int a0), (2, .int a1)] := hl
  dsimp only [mX5_negative_n] at h
  refine lv_aload_n hx hb dX5_negative_0 rfl (lv_at hl 0 rfl) ?_
  refine lv_iload_n hx hb dX5_negative_1 rfl (lv_at hl 1 rfl) ?_
  have hPc := hP.sub (ws' := [(h0, .inr (4, [.ref h0_held, .int t_size, .ref h0_survey])), (h0_held, .inl (k_t_held, 24, .inr (.inr (.inr (.inr t_held)))))]) [0, 1] rfl
  have hKc := hK.sub (tys' := [(k_t_held, .object "PointRings$Curve")]) [0] rfl
  refine va_csq (W.runV (As := [.int a0]) (rest := []) ⟨hx, hb, hml, hown, hts⟩ (ctX5_at l N dC dI  h0 h0_held h0_survey k_t_held t_size t_held a0 none hk0) (cwV 1 hts gX5_negative_n_X5_at rfl rfl rfl (by decide +kernel) ⟨Nat.le_of_ble_eq_true rfl, Nat.le_of_ble_eq_true rfl⟩) ⟨fun a U g mk q => by obtain ⟨q0, qP, qK, qN⟩ := q; exact ⟨q0, qP, va_K.moved (u := U) (U := U.calling g mk a) (Vm.Alike.refl U.vm) qK, nw_same (u := U) (U := U.calling g mk a) rfl qN⟩, va_recv hKc hPc (ci := 4) (q0 := 0) rfl rfl, fun U hU hW => ⟨rfl, by rw [hU]; exact hPc, va_K.moved hW.alike hKc, nw_warm hW hN⟩⟩ rfl rfl hl.1 rfl (lv_room (Nat.le_of_ble_eq_true rfl)) dX5_negative_2 ⟨Nat.le_of_ble_eq_true rfl, Nat.le_of_ble_eq_true rfl⟩) (fun q9 eq9 => ?_)
  subst q9
  refine lv_astore_nN (lv' := [(3, .null), (0, .ref h0), (1, .int a0), (2, .int a1)]) hx hb dX5_negative_5 rfl hl (by decide) rfl (fun ls hl => ?_)
  refine lv_aload_nN hx hb dX5_negative_6 rfl (lv_at hl 0 rfl) ?_
  refine lv_ifnullN (tgt := 18) hx hb dX5_negative_7 (by decide) ?_
  refine lv_bipush (v := (-2)) hx hb dX5_negative_18 (by decide) ?_
  refine lv_goto (tgt := 28) hx hb dX5_negative_20 (by decide) ?_
  have hv : (-2) = rr := Option.some.inj h
  exact W.iret (v := (-2)) hx hb hr (fun t ht hW => ⟨_, rfl, hv, ht⟩) (fun q hq => absurd hq List.not_mem_nil) dX5_negative_28
def wsX5_times_n : List Cond := .code yX5_times cX5_times 6 (some .int) :: (([] : List Cond) ++ ((wsV RX5 47 RX5 yX5_at wsX5_at)))
set_option maxRecDepth 20000 in
theorem gX5_times_n_X5_at : GoodIn wsX5_times_n (wsV RX5 47 RX5 yX5_at wsX5_at) := goodIn_sub (fun w h => List.mem_cons_of_mem _ (List.mem_append_right _ (h))) (by decide +kernel)
def mX5_times_n (N : Nat) (a0 : Int32) (a1 : Int32) (a2 : Int64) : Option (Int32) := some (-2)
abbrev rmX5_times_n : Room := { frames := 1, cells := 0, slots := 0, locals := 21 }
set_option maxHeartbeats 4000000 in
set_option maxRecDepth 100000 in
theorem ctX5_times_n (l : Launch) (N : Nat) (dC : Nat → ClassId) (dI : Nat → Nat → Nat) (h0 : Nat) (h0_held : Nat) (h0_survey : Nat) (k_t_held : ClassId) (t_size : Int32) (t_held : Nat → Option Nat) (a0 : Int32) (a1 : Int32) (a2 : Int64) (rr : Int32) (h : mX5_times_n N a0 a1 a2 = some rr) (hk0 : mX5_at N t_size t_held a0 = some none) : Met l yX5_times wsX5_times_n rmX5_times_n (va_Pc [.ref h0, .int a0, .int a1, .long a2] (fun U => va_P (dC, dI) vwCl [(h0, .inr (4, [.ref h0_held, .int t_size, .ref h0_survey])), (h0_held, .inl (k_t_held, 24, .inr (.inr (.inr (.inr t_held)))))] U.heap ∧ va_K (dC, dI) vwCl [(k_t_held, .object "PointRings$Curve")] U ∧ nw_all U)) (vp_Si (fun r => r = rr)) 0 0 (fun _ => False) := by
  refine Met.ofW (cc := cX5_times) (maxL := 6) (ret := (some .int)) (by decide) rfl ?_
  intro p e s m args below meth c s₁ B hml hv
  obtain ⟨rfl, hP, hK, hN⟩ := hv
  have hx := B.exec
  have hb := B.bytes
  have hr := B.returns
  have hts := atoms_spec (ws := wsX5_times_n) B.pre
  have hown : s.vm.findClass RX5 = some m.cls := findClass_of_methodNamed B.named
  have hlocks := B.notSynchronized
  have hl := lv_entry ([.ref h0, .int a0, .int a1, .long a2]) (n := 6) (Nat.le_of_ble_eq_true rfl)
  rw [lg_entry_eq]
  generalize (lg_sl ([.ref h0, .int a0, .int a1, .long a2]) ++ List.replicate (6 - (lg_sl ([.ref h0, .int a0, .int a1, .long a2])).length) Slot.unset).toArray = ls at hl ⊢
  have hl : lv_has ls 6 [(0, .ref h0), (1, .int a0), (2, .int a1), (3, .long a2)] := hl
  dsimp only [mX5_times_n] at h
  refine lv_aload_n hx hb dX5_times_0 rfl (lv_at hl 0 rfl) ?_
  refine lv_iload_n hx hb dX5_times_1 rfl (lv_at hl 1 rfl) ?_
  have hPc := hP.sub (ws' := [(h0, .inr (4, [.ref h0_held, .int t_size, .ref h0_survey])), (h0_held, .inl (k_t_held, 24, .inr (.inr (.inr (.inr t_held)))))]) [0, 1] rfl
  have hKc := hK.sub (tys' := [(k_t_held, .object "PointRings$Curve")]) [0] rfl
  refine va_csq (W.runV (As := [.int a0]) (rest := []) ⟨hx, hb, hml, hown, hts⟩ (ctX5_at l N dC dI  h0 h0_held h0_survey k_t_held t_size t_held a0 none hk0) (cwV 1 hts gX5_times_n_X5_at rfl rfl rfl (by decide +kernel) ⟨Nat.le_of_ble_eq_true rfl, Nat.le_of_ble_eq_true rfl⟩) ⟨fun a U g mk q => by obtain ⟨q0, qP, qK, qN⟩ := q; exact ⟨q0, qP, va_K.moved (u := U) (U := U.calling g mk a) (Vm.Alike.refl U.vm) qK, nw_same (u := U) (U := U.calling g mk a) rfl qN⟩, va_recv hKc hPc (ci := 4) (q0 := 0) rfl rfl, fun U hU hW => ⟨rfl, by rw [hU]; exact hPc, va_K.moved hW.alike hKc, nw_warm hW hN⟩⟩ rfl rfl hl.1 rfl (lv_room (Nat.le_of_ble_eq_true rfl)) dX5_times_2 ⟨Nat.le_of_ble_eq_true rfl, Nat.le_of_ble_eq_true rfl⟩) (fun q9 eq9 => ?_)
  subst q9
  refine lv_astoreN (lv' := [(5, .null), (0, .ref h0), (1, .int a0), (2, .int a1), (3, .long a2)]) hx hb dX5_times_5 hl (by decide) rfl (fun ls hl => ?_)
  refine lv_aloadN hx hb dX5_times_7 (lv_at hl 0 rfl) ?_
  refine lv_ifnullN (tgt := 21) hx hb dX5_times_9 (by decide) ?_
  refine lv_bipush (v := (-2)) hx hb dX5_times_21 (by decide) ?_
  refine lv_goto (tgt := 33) hx hb dX5_times_23 (by decide) ?_
  have hv : (-2) = rr := Option.some.inj h
  exact W.iret (v := (-2)) hx hb hr (fun t ht hW => ⟨_, rfl, hv, ht⟩) (fun q hq => absurd hq List.not_mem_nil) dX5_times_33
def wsX5_alone_n : List Cond := .code yX5_alone cX5_alone 10 (some .int) :: (([] : List Cond) ++ ((wsV RX5 47 RX5 yX5_at wsX5_at)))
set_option maxRecDepth 20000 in
theorem gX5_alone_n_X5_at : GoodIn wsX5_alone_n (wsV RX5 47 RX5 yX5_at wsX5_at) := goodIn_sub (fun w h => List.mem_cons_of_mem _ (List.mem_append_right _ (h))) (by decide +kernel)
def mX5_alone_n (N : Nat) (a0 : Int32) (a1 : Int32) (a2 : Int64) : Option (Int32) := some (-2)
abbrev rmX5_alone_n : Room := { frames := 1, cells := 0, slots := 0, locals := 21 }
set_option maxHeartbeats 4000000 in
set_option maxRecDepth 100000 in
theorem ctX5_alone_n (l : Launch) (N : Nat) (dC : Nat → ClassId) (dI : Nat → Nat → Nat) (h0 : Nat) (h0_held : Nat) (h0_survey : Nat) (k_t_held : ClassId) (t_size : Int32) (t_held : Nat → Option Nat) (a0 : Int32) (a1 : Int32) (a2 : Int64) (rr : Int32) (h : mX5_alone_n N a0 a1 a2 = some rr) (hk0 : mX5_at N t_size t_held a0 = some none) : Met l yX5_alone wsX5_alone_n rmX5_alone_n (va_Pc [.ref h0, .int a0, .int a1, .long a2] (fun U => va_P (dC, dI) vwCl [(h0, .inr (4, [.ref h0_held, .int t_size, .ref h0_survey])), (h0_held, .inl (k_t_held, 24, .inr (.inr (.inr (.inr t_held)))))] U.heap ∧ va_K (dC, dI) vwCl [(k_t_held, .object "PointRings$Curve")] U ∧ nw_all U)) (vp_Si (fun r => r = rr)) 0 0 (fun _ => False) := by
  refine Met.ofW (cc := cX5_alone) (maxL := 10) (ret := (some .int)) (by decide) rfl ?_
  intro p e s m args below meth c s₁ B hml hv
  obtain ⟨rfl, hP, hK, hN⟩ := hv
  have hx := B.exec
  have hb := B.bytes
  have hr := B.returns
  have hts := atoms_spec (ws := wsX5_alone_n) B.pre
  have hown : s.vm.findClass RX5 = some m.cls := findClass_of_methodNamed B.named
  have hlocks := B.notSynchronized
  have hl := lv_entry ([.ref h0, .int a0, .int a1, .long a2]) (n := 10) (Nat.le_of_ble_eq_true rfl)
  rw [lg_entry_eq]
  generalize (lg_sl ([.ref h0, .int a0, .int a1, .long a2]) ++ List.replicate (10 - (lg_sl ([.ref h0, .int a0, .int a1, .long a2])).length) Slot.unset).toArray = ls at hl ⊢
  have hl : lv_has ls 10 [(0, .ref h0), (1, .int a0), (2, .int a1), (3, .long a2)] := hl
  dsimp only [mX5_alone_n] at h
  refine lv_aload_n hx hb dX5_alone_0 rfl (lv_at hl 0 rfl) ?_
  refine lv_iload_n hx hb dX5_alone_1 rfl (lv_at hl 1 rfl) ?_
  have hPc := hP.sub (ws' := [(h0, .inr (4, [.ref h0_held, .int t_size, .ref h0_survey])), (h0_held, .inl (k_t_held, 24, .inr (.inr (.inr (.inr t_held)))))]) [0, 1] rfl
  have hKc := hK.sub (tys' := [(k_t_held, .object "PointRings$Curve")]) [0] rfl
  refine va_csq (W.runV (As := [.int a0]) (rest := []) ⟨hx, hb, hml, hown, hts⟩ (ctX5_at l N dC dI  h0 h0_held h0_survey k_t_held t_size t_held a0 none hk0) (cwV 1 hts gX5_alone_n_X5_at rfl rfl rfl (by decide +kernel) ⟨Nat.le_of_ble_eq_true rfl, Nat.le_of_ble_eq_true rfl⟩) ⟨fun a U g mk q => by obtain ⟨q0, qP, qK, qN⟩ := q; exact ⟨q0, qP, va_K.moved (u := U) (U := U.calling g mk a) (Vm.Alike.refl U.vm) qK, nw_same (u := U) (U := U.calling g mk a) rfl qN⟩, va_recv hKc hPc (ci := 4) (q0 := 0) rfl rfl, fun U hU hW => ⟨rfl, by rw [hU]; exact hPc, va_K.moved hW.alike hKc, nw_warm hW hN⟩⟩ rfl rfl hl.1 rfl (lv_room (Nat.le_of_ble_eq_true rfl)) dX5_alone_2 ⟨Nat.le_of_ble_eq_true rfl, Nat.le_of_ble_eq_true rfl⟩) (fun q9 eq9 => ?_)
  subst q9
  refine lv_astoreN (lv' := [(5, .null), (0, .ref h0), (1, .int a0), (2, .int a1), (3, .long a2)]) hx hb dX5_alone_5 hl (by decide) rfl (fun ls hl => ?_)
  refine lv_aloadN hx hb dX5_alone_7 (lv_at hl 0 rfl) ?_
  refine lv_ifnullN (tgt := 24) hx hb dX5_alone_9 (by decide) ?_
  refine lv_bipush (v := (-2)) hx hb dX5_alone_24 (by decide) ?_
  have hv : (-2) = rr := Option.some.inj h
  exact W.iret (v := (-2)) hx hb hr (fun t ht hW => ⟨_, rfl, hv, ht⟩) (fun q hq => absurd hq List.not_mem_nil) dX5_alone_26
def wsX5_count_n : List Cond := .code yX5_count cX5_count 3 (some .int) :: (([] : List Cond) ++ ((wsV RX5 47 RX5 yX5_at wsX5_at)))
set_option maxRecDepth 20000 in
theorem gX5_count_n_X5_at : GoodIn wsX5_count_n (wsV RX5 47 RX5 yX5_at wsX5_at) := goodIn_sub (fun w h => List.mem_cons_of_mem _ (List.mem_append_right _ (h))) (by decide +kernel)
def mX5_count_n (N : Nat) (a0 : Int32) : Option (Int32) := some (-2)
abbrev rmX5_count_n : Room := { frames := 1, cells := 0, slots := 0, locals := 21 }
set_option maxHeartbeats 4000000 in
set_option maxRecDepth 100000 in
theorem ctX5_count_n (l : Launch) (N : Nat) (dC : Nat → ClassId) (dI : Nat → Nat → Nat) (h0 : Nat) (h0_held : Nat) (h0_survey : Nat) (k_t_held : ClassId) (t_size : Int32) (t_held : Nat → Option Nat) (a0 : Int32) (rr : Int32) (h : mX5_count_n N a0 = some rr) (hk0 : mX5_at N t_size t_held a0 = some none) : Met l yX5_count wsX5_count_n rmX5_count_n (va_Pc [.ref h0, .int a0] (fun U => va_P (dC, dI) vwCl [(h0, .inr (4, [.ref h0_held, .int t_size, .ref h0_survey])), (h0_held, .inl (k_t_held, 24, .inr (.inr (.inr (.inr t_held)))))] U.heap ∧ va_K (dC, dI) vwCl [(k_t_held, .object "PointRings$Curve")] U ∧ nw_all U)) (vp_Si (fun r => r = rr)) 0 0 (fun _ => False) := by
  refine Met.ofW (cc := cX5_count) (maxL := 3) (ret := (some .int)) (by decide) rfl ?_
  intro p e s m args below meth c s₁ B hml hv
  obtain ⟨rfl, hP, hK, hN⟩ := hv
  have hx := B.exec
  have hb := B.bytes
  have hr := B.returns
  have hts := atoms_spec (ws := wsX5_count_n) B.pre
  have hown : s.vm.findClass RX5 = some m.cls := findClass_of_methodNamed B.named
  have hlocks := B.notSynchronized
  have hl := lv_entry ([.ref h0, .int a0]) (n := 3) (Nat.le_of_ble_eq_true rfl)
  rw [lg_entry_eq]
  generalize (lg_sl ([.ref h0, .int a0]) ++ List.replicate (3 - (lg_sl ([.ref h0, .int a0])).length) Slot.unset).toArray = ls at hl ⊢
  have hl : lv_has ls 3 [(0, .ref h0), (1, .int a0)] := hl
  dsimp only [mX5_count_n] at h
  refine lv_aload_n hx hb dX5_count_0 rfl (lv_at hl 0 rfl) ?_
  refine lv_iload_n hx hb dX5_count_1 rfl (lv_at hl 1 rfl) ?_
  have hPc := hP.sub (ws' := [(h0, .inr (4, [.ref h0_held, .int t_size, .ref h0_survey])), (h0_held, .inl (k_t_held, 24, .inr (.inr (.inr (.inr t_held)))))]) [0, 1] rfl
  have hKc := hK.sub (tys' := [(k_t_held, .object "PointRings$Curve")]) [0] rfl
  refine va_csq (W.runV (As := [.int a0]) (rest := []) ⟨hx, hb, hml, hown, hts⟩ (ctX5_at l N dC dI  h0 h0_held h0_survey k_t_held t_size t_held a0 none hk0) (cwV 1 hts gX5_count_n_X5_at rfl rfl rfl (by decide +kernel) ⟨Nat.le_of_ble_eq_true rfl, Nat.le_of_ble_eq_true rfl⟩) ⟨fun a U g mk q => by obtain ⟨q0, qP, qK, qN⟩ := q; exact ⟨q0, qP, va_K.moved (u := U) (U := U.calling g mk a) (Vm.Alike.refl U.vm) qK, nw_same (u := U) (U := U.calling g mk a) rfl qN⟩, va_recv hKc hPc (ci := 4) (q0 := 0) rfl rfl, fun U hU hW => ⟨rfl, by rw [hU]; exact hPc, va_K.moved hW.alike hKc, nw_warm hW hN⟩⟩ rfl rfl hl.1 rfl (lv_room (Nat.le_of_ble_eq_true rfl)) dX5_count_2 ⟨Nat.le_of_ble_eq_true rfl, Nat.le_of_ble_eq_true rfl⟩) (fun q9 eq9 => ?_)
  subst q9
  refine lv_astore_nN (lv' := [(2, .null), (0, .ref h0), (1, .int a0)]) hx hb dX5_count_5 rfl hl (by decide) rfl (fun ls hl => ?_)
  refine lv_aload_nN hx hb dX5_count_6 rfl (lv_at hl 0 rfl) ?_
  refine lv_ifnonnullN hx hb dX5_count_7 ?_
  refine lv_bipush (v := (-2)) hx hb dX5_count_10 (by decide) ?_
  refine lv_goto (tgt := 23) hx hb dX5_count_12 (by decide) ?_
  have hv : (-2) = rr := Option.some.inj h
  exact W.iret (v := (-2)) hx hb hr (fun t ht hW => ⟨_, rfl, hv, ht⟩) (fun q hq => absurd hq List.not_mem_nil) dX5_count_23
def wsX5_countOver_n : List Cond := .code yX5_countOver cX5_countOver 15 (some .long) :: (([.constantLong RX5 135 (-2)] : List Cond) ++ ((wsV RX5 47 RX5 yX5_at wsX5_at)))
set_option maxRecDepth 20000 in
theorem gX5_countOver_n_X5_at : GoodIn wsX5_countOver_n (wsV RX5 47 RX5 yX5_at wsX5_at) := goodIn_sub (fun w h => List.mem_cons_of_mem _ (List.mem_append_right _ (h))) (by decide +kernel)
def mX5_countOver_n (N : Nat) (a0 : Int32) (a1 : Int32) : Option (Int64) := some (-2)
abbrev rmX5_countOver_n : Room := { frames := 1, cells := 0, slots := 0, locals := 21 }
set_option maxHeartbeats 4000000 in
set_option maxRecDepth 100000 in
theorem ctX5_countOver_n (l : Launch) (N : Nat) (dC : Nat → ClassId) (dI : Nat → Nat → Nat) (h0 : Nat) (h0_held : Nat) (h0_survey : Nat) (k_t_held : ClassId) (t_size : Int32) (t_held : Nat → Option Nat) (a0 : Int32) (a1 : Int32) (rr : Int64) (h : mX5_countOver_n N a0 a1 = some rr) (hk0 : mX5_at N t_size t_held a0 = some none) : Met l yX5_countOver wsX5_countOver_n rmX5_countOver_n (va_Pc [.ref h0, .int a0, .int a1] (fun U => va_P (dC, dI) vwCl [(h0, .inr (4, [.ref h0_held, .int t_size, .ref h0_survey])), (h0_held, .inl (k_t_held, 24, .inr (.inr (.inr (.inr t_held)))))] U.heap ∧ va_K (dC, dI) vwCl [(k_t_held, .object "PointRings$Curve")] U ∧ nw_all U)) (vp_Sl (fun r => r = rr)) 0 0 (fun _ => False) := by
  refine Met.ofW (cc := cX5_countOver) (maxL := 15) (ret := (some .long)) (by decide) rfl ?_
  intro p e s m args below meth c s₁ B hml hv
  obtain ⟨rfl, hP, hK, hN⟩ := hv
  have hx := B.exec
  have hb := B.bytes
  have hr := B.returns
  have hts := atoms_spec (ws := wsX5_countOver_n) B.pre
  have hown : s.vm.findClass RX5 = some m.cls := findClass_of_methodNamed B.named
  have hlocks := B.notSynchronized
  have hl := lv_entry ([.ref h0, .int a0, .int a1]) (n := 15) (Nat.le_of_ble_eq_true rfl)
  rw [lg_entry_eq]
  generalize (lg_sl ([.ref h0, .int a0, .int a1]) ++ List.replicate (15 - (lg_sl ([.ref h0, .int a0, .int a1])).length) Slot.unset).toArray = ls at hl ⊢
  have hl : lv_has ls 15 [(0, .ref h0), (1, .int a0), (2, .int a1)] := hl
  dsimp only [mX5_countOver_n] at h
  refine lv_aload_n hx hb dX5_countOver_0 rfl (lv_at hl 0 rfl) ?_
  refine lv_iload_n hx hb dX5_countOver_1 rfl (lv_at hl 1 rfl) ?_
  have hPc := hP.sub (ws' := [(h0, .inr (4, [.ref h0_held, .int t_size, .ref h0_survey])), (h0_held, .inl (k_t_held, 24, .inr (.inr (.inr (.inr t_held)))))]) [0, 1] rfl
  have hKc := hK.sub (tys' := [(k_t_held, .object "PointRings$Curve")]) [0] rfl
  refine va_csq (W.runV (As := [.int a0]) (rest := []) ⟨hx, hb, hml, hown, hts⟩ (ctX5_at l N dC dI  h0 h0_held h0_survey k_t_held t_size t_held a0 none hk0) (cwV 1 hts gX5_countOver_n_X5_at rfl rfl rfl (by decide +kernel) ⟨Nat.le_of_ble_eq_true rfl, Nat.le_of_ble_eq_true rfl⟩) ⟨fun a U g mk q => by obtain ⟨q0, qP, qK, qN⟩ := q; exact ⟨q0, qP, va_K.moved (u := U) (U := U.calling g mk a) (Vm.Alike.refl U.vm) qK, nw_same (u := U) (U := U.calling g mk a) rfl qN⟩, va_recv hKc hPc (ci := 4) (q0 := 0) rfl rfl, fun U hU hW => ⟨rfl, by rw [hU]; exact hPc, va_K.moved hW.alike hKc, nw_warm hW hN⟩⟩ rfl rfl hl.1 rfl (lv_room (Nat.le_of_ble_eq_true rfl)) dX5_countOver_2 ⟨Nat.le_of_ble_eq_true rfl, Nat.le_of_ble_eq_true rfl⟩) (fun q9 eq9 => ?_)
  subst q9
  refine lv_astore_nN (lv' := [(3, .null), (0, .ref h0), (1, .int a0), (2, .int a1)]) hx hb dX5_countOver_5 rfl hl (by decide) rfl (fun ls hl => ?_)
  refine lv_aload_nN hx hb dX5_countOver_6 rfl (lv_at hl 0 rfl) ?_
  refine lv_ifnullN (tgt := 20) hx hb dX5_countOver_7 (by decide) ?_
  refine lv_ldc2 (v := (-2)) hx hb hown (hts (.constantLong RX5 135 (-2)) (by decide +kernel)) dX5_countOver_20 ?_
  have hv : (-2) = rr := Option.some.inj h
  exact W.lret (v := (-2)) hx hb hr (fun t ht hW => ⟨_, rfl, hv, ht⟩) (fun q hq => absurd hq List.not_mem_nil) dX5_countOver_23
def wsX5_bound_n : List Cond := .code yX5_bound cX5_bound 5 (some .int) :: (([] : List Cond) ++ ((wsV RX5 47 RX5 yX5_at wsX5_at)))
set_option maxRecDepth 20000 in
theorem gX5_bound_n_X5_at : GoodIn wsX5_bound_n (wsV RX5 47 RX5 yX5_at wsX5_at) := goodIn_sub (fun w h => List.mem_cons_of_mem _ (List.mem_append_right _ (h))) (by decide +kernel)
def mX5_bound_n (N : Nat) (a0 : Int32) (a1 : Int32) : Option (Int32) := some (-2)
abbrev rmX5_bound_n : Room := { frames := 1, cells := 0, slots := 0, locals := 21 }
set_option maxHeartbeats 4000000 in
set_option maxRecDepth 100000 in
theorem ctX5_bound_n (l : Launch) (N : Nat) (dC : Nat → ClassId) (dI : Nat → Nat → Nat) (h0 : Nat) (h0_held : Nat) (h0_survey : Nat) (k_t_held : ClassId) (t_size : Int32) (t_held : Nat → Option Nat) (a0 : Int32) (a1 : Int32) (rr : Int32) (h : mX5_bound_n N a0 a1 = some rr) (hk0 : mX5_at N t_size t_held a0 = some none) : Met l yX5_bound wsX5_bound_n rmX5_bound_n (va_Pc [.ref h0, .int a0, .int a1] (fun U => va_P (dC, dI) vwCl [(h0, .inr (4, [.ref h0_held, .int t_size, .ref h0_survey])), (h0_held, .inl (k_t_held, 24, .inr (.inr (.inr (.inr t_held)))))] U.heap ∧ va_K (dC, dI) vwCl [(k_t_held, .object "PointRings$Curve")] U ∧ nw_all U)) (vp_Si (fun r => r = rr)) 0 0 (fun _ => False) := by
  refine Met.ofW (cc := cX5_bound) (maxL := 5) (ret := (some .int)) (by decide) rfl ?_
  intro p e s m args below meth c s₁ B hml hv
  obtain ⟨rfl, hP, hK, hN⟩ := hv
  have hx := B.exec
  have hb := B.bytes
  have hr := B.returns
  have hts := atoms_spec (ws := wsX5_bound_n) B.pre
  have hown : s.vm.findClass RX5 = some m.cls := findClass_of_methodNamed B.named
  have hlocks := B.notSynchronized
  have hl := lv_entry ([.ref h0, .int a0, .int a1]) (n := 5) (Nat.le_of_ble_eq_true rfl)
  rw [lg_entry_eq]
  generalize (lg_sl ([.ref h0, .int a0, .int a1]) ++ List.replicate (5 - (lg_sl ([.ref h0, .int a0, .int a1])).length) Slot.unset).toArray = ls at hl ⊢
  have hl : lv_has ls 5 [(0, .ref h0), (1, .int a0), (2, .int a1)] := hl
  dsimp only [mX5_bound_n] at h
  refine lv_aload_n hx hb dX5_bound_0 rfl (lv_at hl 0 rfl) ?_
  refine lv_iload_n hx hb dX5_bound_1 rfl (lv_at hl 1 rfl) ?_
  have hPc := hP.sub (ws' := [(h0, .inr (4, [.ref h0_held, .int t_size, .ref h0_survey])), (h0_held, .inl (k_t_held, 24, .inr (.inr (.inr (.inr t_held)))))]) [0, 1] rfl
  have hKc := hK.sub (tys' := [(k_t_held, .object "PointRings$Curve")]) [0] rfl
  refine va_csq (W.runV (As := [.int a0]) (rest := []) ⟨hx, hb, hml, hown, hts⟩ (ctX5_at l N dC dI  h0 h0_held h0_survey k_t_held t_size t_held a0 none hk0) (cwV 1 hts gX5_bound_n_X5_at rfl rfl rfl (by decide +kernel) ⟨Nat.le_of_ble_eq_true rfl, Nat.le_of_ble_eq_true rfl⟩) ⟨fun a U g mk q => by obtain ⟨q0, qP, qK, qN⟩ := q; exact ⟨q0, qP, va_K.moved (u := U) (U := U.calling g mk a) (Vm.Alike.refl U.vm) qK, nw_same (u := U) (U := U.calling g mk a) rfl qN⟩, va_recv hKc hPc (ci := 4) (q0 := 0) rfl rfl, fun U hU hW => ⟨rfl, by rw [hU]; exact hPc, va_K.moved hW.alike hKc, nw_warm hW hN⟩⟩ rfl rfl hl.1 rfl (lv_room (Nat.le_of_ble_eq_true rfl)) dX5_bound_2 ⟨Nat.le_of_ble_eq_true rfl, Nat.le_of_ble_eq_true rfl⟩) (fun q9 eq9 => ?_)
  subst q9
  refine lv_astore_nN (lv' := [(3, .null), (0, .ref h0), (1, .int a0), (2, .int a1)]) hx hb dX5_bound_5 rfl hl (by decide) rfl (fun ls hl => ?_)
  refine lv_aload_nN hx hb dX5_bound_6 rfl (lv_at hl 0 rfl) ?_
  refine lv_ifnullN (tgt := 19) hx hb dX5_bound_7 (by decide) ?_
  refine lv_bipush (v := (-2)) hx hb dX5_bound_19 (by decide) ?_
  have hv : (-2) = rr := Option.some.inj h
  exact W.iret (v := (-2)) hx hb hr (fun t ht hW => ⟨_, rfl, hv, ht⟩) (fun q hq => absurd hq List.not_mem_nil) dX5_bound_21
def wsX5_proof_n : List Cond := .code yX5_proof cX5_proof 5 (some .int) :: (([] : List Cond) ++ ((wsV RX5 47 RX5 yX5_at wsX5_at)))
set_option maxRecDepth 20000 in
theorem gX5_proof_n_X5_at : GoodIn wsX5_proof_n (wsV RX5 47 RX5 yX5_at wsX5_at) := goodIn_sub (fun w h => List.mem_cons_of_mem _ (List.mem_append_right _ (h))) (by decide +kernel)
def mX5_proof_n (N : Nat) (a0 : Int32) (a1 : Int32) : Option (Int32) := some (-2)
abbrev rmX5_proof_n : Room := { frames := 1, cells := 0, slots := 0, locals := 21 }
set_option maxHeartbeats 4000000 in
set_option maxRecDepth 100000 in
theorem ctX5_proof_n (l : Launch) (N : Nat) (dC : Nat → ClassId) (dI : Nat → Nat → Nat) (h0 : Nat) (h0_held : Nat) (h0_survey : Nat) (k_t_held : ClassId) (t_size : Int32) (t_held : Nat → Option Nat) (a0 : Int32) (a1 : Int32) (rr : Int32) (h : mX5_proof_n N a0 a1 = some rr) (hk0 : mX5_at N t_size t_held a0 = some none) : Met l yX5_proof wsX5_proof_n rmX5_proof_n (va_Pc [.ref h0, .int a0, .int a1] (fun U => va_P (dC, dI) vwCl [(h0, .inr (4, [.ref h0_held, .int t_size, .ref h0_survey])), (h0_held, .inl (k_t_held, 24, .inr (.inr (.inr (.inr t_held)))))] U.heap ∧ va_K (dC, dI) vwCl [(k_t_held, .object "PointRings$Curve")] U ∧ nw_all U)) (vp_Si (fun r => r = rr)) 0 0 (fun _ => False) := by
  refine Met.ofW (cc := cX5_proof) (maxL := 5) (ret := (some .int)) (by decide) rfl ?_
  intro p e s m args below meth c s₁ B hml hv
  obtain ⟨rfl, hP, hK, hN⟩ := hv
  have hx := B.exec
  have hb := B.bytes
  have hr := B.returns
  have hts := atoms_spec (ws := wsX5_proof_n) B.pre
  have hown : s.vm.findClass RX5 = some m.cls := findClass_of_methodNamed B.named
  have hlocks := B.notSynchronized
  have hl := lv_entry ([.ref h0, .int a0, .int a1]) (n := 5) (Nat.le_of_ble_eq_true rfl)
  rw [lg_entry_eq]
  generalize (lg_sl ([.ref h0, .int a0, .int a1]) ++ List.replicate (5 - (lg_sl ([.ref h0, .int a0, .int a1])).length) Slot.unset).toArray = ls at hl ⊢
  have hl : lv_has ls 5 [(0, .ref h0), (1, .int a0), (2, .int a1)] := hl
  dsimp only [mX5_proof_n] at h
  refine lv_aload_n hx hb dX5_proof_0 rfl (lv_at hl 0 rfl) ?_
  refine lv_iload_n hx hb dX5_proof_1 rfl (lv_at hl 1 rfl) ?_
  have hPc := hP.sub (ws' := [(h0, .inr (4, [.ref h0_held, .int t_size, .ref h0_survey])), (h0_held, .inl (k_t_held, 24, .inr (.inr (.inr (.inr t_held)))))]) [0, 1] rfl
  have hKc := hK.sub (tys' := [(k_t_held, .object "PointRings$Curve")]) [0] rfl
  refine va_csq (W.runV (As := [.int a0]) (rest := []) ⟨hx, hb, hml, hown, hts⟩ (ctX5_at l N dC dI  h0 h0_held h0_survey k_t_held t_size t_held a0 none hk0) (cwV 1 hts gX5_proof_n_X5_at rfl rfl rfl (by decide +kernel) ⟨Nat.le_of_ble_eq_true rfl, Nat.le_of_ble_eq_true rfl⟩) ⟨fun a U g mk q => by obtain ⟨q0, qP, qK, qN⟩ := q; exact ⟨q0, qP, va_K.moved (u := U) (U := U.calling g mk a) (Vm.Alike.refl U.vm) qK, nw_same (u := U) (U := U.calling g mk a) rfl qN⟩, va_recv hKc hPc (ci := 4) (q0 := 0) rfl rfl, fun U hU hW => ⟨rfl, by rw [hU]; exact hPc, va_K.moved hW.alike hKc, nw_warm hW hN⟩⟩ rfl rfl hl.1 rfl (lv_room (Nat.le_of_ble_eq_true rfl)) dX5_proof_2 ⟨Nat.le_of_ble_eq_true rfl, Nat.le_of_ble_eq_true rfl⟩) (fun q9 eq9 => ?_)
  subst q9
  refine lv_astore_nN (lv' := [(3, .null), (0, .ref h0), (1, .int a0), (2, .int a1)]) hx hb dX5_proof_5 rfl hl (by decide) rfl (fun ls hl => ?_)
  refine lv_aload_nN hx hb dX5_proof_6 rfl (lv_at hl 0 rfl) ?_
  refine lv_ifnullN (tgt := 19) hx hb dX5_proof_7 (by decide) ?_
  refine lv_bipush (v := (-2)) hx hb dX5_proof_19 (by decide) ?_
  have hv : (-2) = rr := Option.some.inj h
  exact W.iret (v := (-2)) hx hb hr (fun t ht hW => ⟨_, rfl, hv, ht⟩) (fun q hq => absurd hq List.not_mem_nil) dX5_proof_21
def wsX5_supersingular_n : List Cond := .code yX5_supersingular cX5_supersingular 3 (some .int) :: (([] : List Cond) ++ ((wsV RX5 47 RX5 yX5_at wsX5_at)))
set_option maxRecDepth 20000 in
theorem gX5_supersingular_n_X5_at : GoodIn wsX5_supersingular_n (wsV RX5 47 RX5 yX5_at wsX5_at) := goodIn_sub (fun w h => List.mem_cons_of_mem _ (List.mem_append_right _ (h))) (by decide +kernel)
def mX5_supersingular_n (N : Nat) (a0 : Int32) : Option (Int32) := some (-2)
abbrev rmX5_supersingular_n : Room := { frames := 1, cells := 0, slots := 0, locals := 21 }
set_option maxHeartbeats 4000000 in
set_option maxRecDepth 100000 in
theorem ctX5_supersingular_n (l : Launch) (N : Nat) (dC : Nat → ClassId) (dI : Nat → Nat → Nat) (h0 : Nat) (h0_held : Nat) (h0_survey : Nat) (k_t_held : ClassId) (t_size : Int32) (t_held : Nat → Option Nat) (a0 : Int32) (rr : Int32) (h : mX5_supersingular_n N a0 = some rr) (hk0 : mX5_at N t_size t_held a0 = some none) : Met l yX5_supersingular wsX5_supersingular_n rmX5_supersingular_n (va_Pc [.ref h0, .int a0] (fun U => va_P (dC, dI) vwCl [(h0, .inr (4, [.ref h0_held, .int t_size, .ref h0_survey])), (h0_held, .inl (k_t_held, 24, .inr (.inr (.inr (.inr t_held)))))] U.heap ∧ va_K (dC, dI) vwCl [(k_t_held, .object "PointRings$Curve")] U ∧ nw_all U)) (vp_Si (fun r => r = rr)) 0 0 (fun _ => False) := by
  refine Met.ofW (cc := cX5_supersingular) (maxL := 3) (ret := (some .int)) (by decide) rfl ?_
  intro p e s m args below meth c s₁ B hml hv
  obtain ⟨rfl, hP, hK, hN⟩ := hv
  have hx := B.exec
  have hb := B.bytes
  have hr := B.returns
  have hts := atoms_spec (ws := wsX5_supersingular_n) B.pre
  have hown : s.vm.findClass RX5 = some m.cls := findClass_of_methodNamed B.named
  have hlocks := B.notSynchronized
  have hl := lv_entry ([.ref h0, .int a0]) (n := 3) (Nat.le_of_ble_eq_true rfl)
  rw [lg_entry_eq]
  generalize (lg_sl ([.ref h0, .int a0]) ++ List.replicate (3 - (lg_sl ([.ref h0, .int a0])).length) Slot.unset).toArray = ls at hl ⊢
  have hl : lv_has ls 3 [(0, .ref h0), (1, .int a0)] := hl
  dsimp only [mX5_supersingular_n] at h
  refine lv_aload_n hx hb dX5_supersingular_0 rfl (lv_at hl 0 rfl) ?_
  refine lv_iload_n hx hb dX5_supersingular_1 rfl (lv_at hl 1 rfl) ?_
  have hPc := hP.sub (ws' := [(h0, .inr (4, [.ref h0_held, .int t_size, .ref h0_survey])), (h0_held, .inl (k_t_held, 24, .inr (.inr (.inr (.inr t_held)))))]) [0, 1] rfl
  have hKc := hK.sub (tys' := [(k_t_held, .object "PointRings$Curve")]) [0] rfl
  refine va_csq (W.runV (As := [.int a0]) (rest := []) ⟨hx, hb, hml, hown, hts⟩ (ctX5_at l N dC dI  h0 h0_held h0_survey k_t_held t_size t_held a0 none hk0) (cwV 1 hts gX5_supersingular_n_X5_at rfl rfl rfl (by decide +kernel) ⟨Nat.le_of_ble_eq_true rfl, Nat.le_of_ble_eq_true rfl⟩) ⟨fun a U g mk q => by obtain ⟨q0, qP, qK, qN⟩ := q; exact ⟨q0, qP, va_K.moved (u := U) (U := U.calling g mk a) (Vm.Alike.refl U.vm) qK, nw_same (u := U) (U := U.calling g mk a) rfl qN⟩, va_recv hKc hPc (ci := 4) (q0 := 0) rfl rfl, fun U hU hW => ⟨rfl, by rw [hU]; exact hPc, va_K.moved hW.alike hKc, nw_warm hW hN⟩⟩ rfl rfl hl.1 rfl (lv_room (Nat.le_of_ble_eq_true rfl)) dX5_supersingular_2 ⟨Nat.le_of_ble_eq_true rfl, Nat.le_of_ble_eq_true rfl⟩) (fun q9 eq9 => ?_)
  subst q9
  refine lv_astore_nN (lv' := [(2, .null), (0, .ref h0), (1, .int a0)]) hx hb dX5_supersingular_5 rfl hl (by decide) rfl (fun ls hl => ?_)
  refine lv_aload_nN hx hb dX5_supersingular_6 rfl (lv_at hl 0 rfl) ?_
  refine lv_ifnonnullN hx hb dX5_supersingular_7 ?_
  refine lv_bipush (v := (-2)) hx hb dX5_supersingular_10 (by decide) ?_
  have hv : (-2) = rr := Option.some.inj h
  exact W.iret (v := (-2)) hx hb hr (fun t ht hW => ⟨_, rfl, hv, ht⟩) (fun q hq => absurd hq List.not_mem_nil) dX5_supersingular_12
def wsX5_order_n : List Cond := .code yX5_order cX5_order 4 (some .int) :: (([] : List Cond) ++ ((wsV RX5 47 RX5 yX5_at wsX5_at)))
set_option maxRecDepth 20000 in
theorem gX5_order_n_X5_at : GoodIn wsX5_order_n (wsV RX5 47 RX5 yX5_at wsX5_at) := goodIn_sub (fun w h => List.mem_cons_of_mem _ (List.mem_append_right _ (h))) (by decide +kernel)
def mX5_order_n (N : Nat) (a0 : Int32) (a1 : Int32) : Option (Int32) := some (-2)
abbrev rmX5_order_n : Room := { frames := 1, cells := 0, slots := 0, locals := 21 }
set_option maxHeartbeats 4000000 in
set_option maxRecDepth 100000 in
theorem ctX5_order_n (l : Launch) (N : Nat) (dC : Nat → ClassId) (dI : Nat → Nat → Nat) (h0 : Nat) (h0_held : Nat) (h0_survey : Nat) (k_t_held : ClassId) (t_size : Int32) (t_held : Nat → Option Nat) (a0 : Int32) (a1 : Int32) (rr : Int32) (h : mX5_order_n N a0 a1 = some rr) (hk0 : mX5_at N t_size t_held a0 = some none) : Met l yX5_order wsX5_order_n rmX5_order_n (va_Pc [.ref h0, .int a0, .int a1] (fun U => va_P (dC, dI) vwCl [(h0, .inr (4, [.ref h0_held, .int t_size, .ref h0_survey])), (h0_held, .inl (k_t_held, 24, .inr (.inr (.inr (.inr t_held)))))] U.heap ∧ va_K (dC, dI) vwCl [(k_t_held, .object "PointRings$Curve")] U ∧ nw_all U)) (vp_Si (fun r => r = rr)) 0 0 (fun _ => False) := by
  refine Met.ofW (cc := cX5_order) (maxL := 4) (ret := (some .int)) (by decide) rfl ?_
  intro p e s m args below meth c s₁ B hml hv
  obtain ⟨rfl, hP, hK, hN⟩ := hv
  have hx := B.exec
  have hb := B.bytes
  have hr := B.returns
  have hts := atoms_spec (ws := wsX5_order_n) B.pre
  have hown : s.vm.findClass RX5 = some m.cls := findClass_of_methodNamed B.named
  have hlocks := B.notSynchronized
  have hl := lv_entry ([.ref h0, .int a0, .int a1]) (n := 4) (Nat.le_of_ble_eq_true rfl)
  rw [lg_entry_eq]
  generalize (lg_sl ([.ref h0, .int a0, .int a1]) ++ List.replicate (4 - (lg_sl ([.ref h0, .int a0, .int a1])).length) Slot.unset).toArray = ls at hl ⊢
  have hl : lv_has ls 4 [(0, .ref h0), (1, .int a0), (2, .int a1)] := hl
  dsimp only [mX5_order_n] at h
  refine lv_aload_n hx hb dX5_order_0 rfl (lv_at hl 0 rfl) ?_
  refine lv_iload_n hx hb dX5_order_1 rfl (lv_at hl 1 rfl) ?_
  have hPc := hP.sub (ws' := [(h0, .inr (4, [.ref h0_held, .int t_size, .ref h0_survey])), (h0_held, .inl (k_t_held, 24, .inr (.inr (.inr (.inr t_held)))))]) [0, 1] rfl
  have hKc := hK.sub (tys' := [(k_t_held, .object "PointRings$Curve")]) [0] rfl
  refine va_csq (W.runV (As := [.int a0]) (rest := []) ⟨hx, hb, hml, hown, hts⟩ (ctX5_at l N dC dI  h0 h0_held h0_survey k_t_held t_size t_held a0 none hk0) (cwV 1 hts gX5_order_n_X5_at rfl rfl rfl (by decide +kernel) ⟨Nat.le_of_ble_eq_true rfl, Nat.le_of_ble_eq_true rfl⟩) ⟨fun a U g mk q => by obtain ⟨q0, qP, qK, qN⟩ := q; exact ⟨q0, qP, va_K.moved (u := U) (U := U.calling g mk a) (Vm.Alike.refl U.vm) qK, nw_same (u := U) (U := U.calling g mk a) rfl qN⟩, va_recv hKc hPc (ci := 4) (q0 := 0) rfl rfl, fun U hU hW => ⟨rfl, by rw [hU]; exact hPc, va_K.moved hW.alike hKc, nw_warm hW hN⟩⟩ rfl rfl hl.1 rfl (lv_room (Nat.le_of_ble_eq_true rfl)) dX5_order_2 ⟨Nat.le_of_ble_eq_true rfl, Nat.le_of_ble_eq_true rfl⟩) (fun q9 eq9 => ?_)
  subst q9
  refine lv_astore_nN (lv' := [(3, .null), (0, .ref h0), (1, .int a0), (2, .int a1)]) hx hb dX5_order_5 rfl hl (by decide) rfl (fun ls hl => ?_)
  refine lv_aload_nN hx hb dX5_order_6 rfl (lv_at hl 0 rfl) ?_
  refine lv_ifnullN (tgt := 18) hx hb dX5_order_7 (by decide) ?_
  refine lv_bipush (v := (-2)) hx hb dX5_order_18 (by decide) ?_
  have hv : (-2) = rr := Option.some.inj h
  exact W.iret (v := (-2)) hx hb hr (fun t ht hW => ⟨_, rfl, hv, ht⟩) (fun q hq => absurd hq List.not_mem_nil) dX5_order_20
def wsX5_ofOrder_n : List Cond := .code yX5_ofOrder cX5_ofOrder 4 (some .int) :: (([] : List Cond) ++ ((wsV RX5 47 RX5 yX5_at wsX5_at)))
set_option maxRecDepth 20000 in
theorem gX5_ofOrder_n_X5_at : GoodIn wsX5_ofOrder_n (wsV RX5 47 RX5 yX5_at wsX5_at) := goodIn_sub (fun w h => List.mem_cons_of_mem _ (List.mem_append_right _ (h))) (by decide +kernel)
def mX5_ofOrder_n (N : Nat) (a0 : Int32) (a1 : Int32) : Option (Int32) := some (-2)
abbrev rmX5_ofOrder_n : Room := { frames := 1, cells := 0, slots := 0, locals := 21 }
set_option maxHeartbeats 4000000 in
set_option maxRecDepth 100000 in
theorem ctX5_ofOrder_n (l : Launch) (N : Nat) (dC : Nat → ClassId) (dI : Nat → Nat → Nat) (h0 : Nat) (h0_held : Nat) (h0_survey : Nat) (k_t_held : ClassId) (t_size : Int32) (t_held : Nat → Option Nat) (a0 : Int32) (a1 : Int32) (rr : Int32) (h : mX5_ofOrder_n N a0 a1 = some rr) (hk0 : mX5_at N t_size t_held a0 = some none) : Met l yX5_ofOrder wsX5_ofOrder_n rmX5_ofOrder_n (va_Pc [.ref h0, .int a0, .int a1] (fun U => va_P (dC, dI) vwCl [(h0, .inr (4, [.ref h0_held, .int t_size, .ref h0_survey])), (h0_held, .inl (k_t_held, 24, .inr (.inr (.inr (.inr t_held)))))] U.heap ∧ va_K (dC, dI) vwCl [(k_t_held, .object "PointRings$Curve")] U ∧ nw_all U)) (vp_Si (fun r => r = rr)) 0 0 (fun _ => False) := by
  refine Met.ofW (cc := cX5_ofOrder) (maxL := 4) (ret := (some .int)) (by decide) rfl ?_
  intro p e s m args below meth c s₁ B hml hv
  obtain ⟨rfl, hP, hK, hN⟩ := hv
  have hx := B.exec
  have hb := B.bytes
  have hr := B.returns
  have hts := atoms_spec (ws := wsX5_ofOrder_n) B.pre
  have hown : s.vm.findClass RX5 = some m.cls := findClass_of_methodNamed B.named
  have hlocks := B.notSynchronized
  have hl := lv_entry ([.ref h0, .int a0, .int a1]) (n := 4) (Nat.le_of_ble_eq_true rfl)
  rw [lg_entry_eq]
  generalize (lg_sl ([.ref h0, .int a0, .int a1]) ++ List.replicate (4 - (lg_sl ([.ref h0, .int a0, .int a1])).length) Slot.unset).toArray = ls at hl ⊢
  have hl : lv_has ls 4 [(0, .ref h0), (1, .int a0), (2, .int a1)] := hl
  dsimp only [mX5_ofOrder_n] at h
  refine lv_aload_n hx hb dX5_ofOrder_0 rfl (lv_at hl 0 rfl) ?_
  refine lv_iload_n hx hb dX5_ofOrder_1 rfl (lv_at hl 1 rfl) ?_
  have hPc := hP.sub (ws' := [(h0, .inr (4, [.ref h0_held, .int t_size, .ref h0_survey])), (h0_held, .inl (k_t_held, 24, .inr (.inr (.inr (.inr t_held)))))]) [0, 1] rfl
  have hKc := hK.sub (tys' := [(k_t_held, .object "PointRings$Curve")]) [0] rfl
  refine va_csq (W.runV (As := [.int a0]) (rest := []) ⟨hx, hb, hml, hown, hts⟩ (ctX5_at l N dC dI  h0 h0_held h0_survey k_t_held t_size t_held a0 none hk0) (cwV 1 hts gX5_ofOrder_n_X5_at rfl rfl rfl (by decide +kernel) ⟨Nat.le_of_ble_eq_true rfl, Nat.le_of_ble_eq_true rfl⟩) ⟨fun a U g mk q => by obtain ⟨q0, qP, qK, qN⟩ := q; exact ⟨q0, qP, va_K.moved (u := U) (U := U.calling g mk a) (Vm.Alike.refl U.vm) qK, nw_same (u := U) (U := U.calling g mk a) rfl qN⟩, va_recv hKc hPc (ci := 4) (q0 := 0) rfl rfl, fun U hU hW => ⟨rfl, by rw [hU]; exact hPc, va_K.moved hW.alike hKc, nw_warm hW hN⟩⟩ rfl rfl hl.1 rfl (lv_room (Nat.le_of_ble_eq_true rfl)) dX5_ofOrder_2 ⟨Nat.le_of_ble_eq_true rfl, Nat.le_of_ble_eq_true rfl⟩) (fun q9 eq9 => ?_)
  subst q9
  refine lv_astore_nN (lv' := [(3, .null), (0, .ref h0), (1, .int a0), (2, .int a1)]) hx hb dX5_ofOrder_5 rfl hl (by decide) rfl (fun ls hl => ?_)
  refine lv_aload_nN hx hb dX5_ofOrder_6 rfl (lv_at hl 0 rfl) ?_
  refine lv_ifnullN (tgt := 15) hx hb dX5_ofOrder_7 (by decide) ?_
  refine lv_bipush (v := (-2)) hx hb dX5_ofOrder_15 (by decide) ?_
  have hv : (-2) = rr := Option.some.inj h
  exact W.iret (v := (-2)) hx hb hr (fun t ht hW => ⟨_, rfl, hv, ht⟩) (fun q hq => absurd hq List.not_mem_nil) dX5_ofOrder_17
def wsX5_torsion_n : List Cond := .code yX5_torsion cX5_torsion 4 (some .int) :: (([] : List Cond) ++ ((wsV RX5 47 RX5 yX5_at wsX5_at)))
set_option maxRecDepth 20000 in
theorem gX5_torsion_n_X5_at : GoodIn wsX5_torsion_n (wsV RX5 47 RX5 yX5_at wsX5_at) := goodIn_sub (fun w h => List.mem_cons_of_mem _ (List.mem_append_right _ (h))) (by decide +kernel)
def mX5_torsion_n (N : Nat) (a0 : Int32) (a1 : Int32) : Option (Int32) := some (-2)
abbrev rmX5_torsion_n : Room := { frames := 1, cells := 0, slots := 0, locals := 21 }
set_option maxHeartbeats 4000000 in
set_option maxRecDepth 100000 in
theorem ctX5_torsion_n (l : Launch) (N : Nat) (dC : Nat → ClassId) (dI : Nat → Nat → Nat) (h0 : Nat) (h0_held : Nat) (h0_survey : Nat) (k_t_held : ClassId) (t_size : Int32) (t_held : Nat → Option Nat) (a0 : Int32) (a1 : Int32) (rr : Int32) (h : mX5_torsion_n N a0 a1 = some rr) (hk0 : mX5_at N t_size t_held a0 = some none) : Met l yX5_torsion wsX5_torsion_n rmX5_torsion_n (va_Pc [.ref h0, .int a0, .int a1] (fun U => va_P (dC, dI) vwCl [(h0, .inr (4, [.ref h0_held, .int t_size, .ref h0_survey])), (h0_held, .inl (k_t_held, 24, .inr (.inr (.inr (.inr t_held)))))] U.heap ∧ va_K (dC, dI) vwCl [(k_t_held, .object "PointRings$Curve")] U ∧ nw_all U)) (vp_Si (fun r => r = rr)) 0 0 (fun _ => False) := by
  refine Met.ofW (cc := cX5_torsion) (maxL := 4) (ret := (some .int)) (by decide) rfl ?_
  intro p e s m args below meth c s₁ B hml hv
  obtain ⟨rfl, hP, hK, hN⟩ := hv
  have hx := B.exec
  have hb := B.bytes
  have hr := B.returns
  have hts := atoms_spec (ws := wsX5_torsion_n) B.pre
  have hown : s.vm.findClass RX5 = some m.cls := findClass_of_methodNamed B.named
  have hlocks := B.notSynchronized
  have hl := lv_entry ([.ref h0, .int a0, .int a1]) (n := 4) (Nat.le_of_ble_eq_true rfl)
  rw [lg_entry_eq]
  generalize (lg_sl ([.ref h0, .int a0, .int a1]) ++ List.replicate (4 - (lg_sl ([.ref h0, .int a0, .int a1])).length) Slot.unset).toArray = ls at hl ⊢
  have hl : lv_has ls 4 [(0, .ref h0), (1, .int a0), (2, .int a1)] := hl
  dsimp only [mX5_torsion_n] at h
  refine lv_aload_n hx hb dX5_torsion_0 rfl (lv_at hl 0 rfl) ?_
  refine lv_iload_n hx hb dX5_torsion_1 rfl (lv_at hl 1 rfl) ?_
  have hPc := hP.sub (ws' := [(h0, .inr (4, [.ref h0_held, .int t_size, .ref h0_survey])), (h0_held, .inl (k_t_held, 24, .inr (.inr (.inr (.inr t_held)))))]) [0, 1] rfl
  have hKc := hK.sub (tys' := [(k_t_held, .object "PointRings$Curve")]) [0] rfl
  refine va_csq (W.runV (As := [.int a0]) (rest := []) ⟨hx, hb, hml, hown, hts⟩ (ctX5_at l N dC dI  h0 h0_held h0_survey k_t_held t_size t_held a0 none hk0) (cwV 1 hts gX5_torsion_n_X5_at rfl rfl rfl (by decide +kernel) ⟨Nat.le_of_ble_eq_true rfl, Nat.le_of_ble_eq_true rfl⟩) ⟨fun a U g mk q => by obtain ⟨q0, qP, qK, qN⟩ := q; exact ⟨q0, qP, va_K.moved (u := U) (U := U.calling g mk a) (Vm.Alike.refl U.vm) qK, nw_same (u := U) (U := U.calling g mk a) rfl qN⟩, va_recv hKc hPc (ci := 4) (q0 := 0) rfl rfl, fun U hU hW => ⟨rfl, by rw [hU]; exact hPc, va_K.moved hW.alike hKc, nw_warm hW hN⟩⟩ rfl rfl hl.1 rfl (lv_room (Nat.le_of_ble_eq_true rfl)) dX5_torsion_2 ⟨Nat.le_of_ble_eq_true rfl, Nat.le_of_ble_eq_true rfl⟩) (fun q9 eq9 => ?_)
  subst q9
  refine lv_astore_nN (lv' := [(3, .null), (0, .ref h0), (1, .int a0), (2, .int a1)]) hx hb dX5_torsion_5 rfl hl (by decide) rfl (fun ls hl => ?_)
  refine lv_aload_nN hx hb dX5_torsion_6 rfl (lv_at hl 0 rfl) ?_
  refine lv_ifnullN (tgt := 15) hx hb dX5_torsion_7 (by decide) ?_
  refine lv_bipush (v := (-2)) hx hb dX5_torsion_15 (by decide) ?_
  have hv : (-2) = rr := Option.some.inj h
  exact W.iret (v := (-2)) hx hb hr (fun t ht hW => ⟨_, rfl, hv, ht⟩) (fun q hq => absurd hq List.not_mem_nil) dX5_torsion_17
def wsX5_made_n : List Cond := .code yX5_made cX5_made 4 (some .int) :: (([] : List Cond) ++ ((wsV RX5 47 RX5 yX5_at wsX5_at)))
set_option maxRecDepth 20000 in
theorem gX5_made_n_X5_at : GoodIn wsX5_made_n (wsV RX5 47 RX5 yX5_at wsX5_at) := goodIn_sub (fun w h => List.mem_cons_of_mem _ (List.mem_append_right _ (h))) (by decide +kernel)
def mX5_made_n (N : Nat) (a0 : Int32) (a1 : Int32) : Option (Int32) := some (-2)
abbrev rmX5_made_n : Room := { frames := 1, cells := 0, slots := 0, locals := 21 }
set_option maxHeartbeats 4000000 in
set_option maxRecDepth 100000 in
theorem ctX5_made_n (l : Launch) (N : Nat) (dC : Nat → ClassId) (dI : Nat → Nat → Nat) (h0 : Nat) (h0_held : Nat) (h0_survey : Nat) (k_t_held : ClassId) (t_size : Int32) (t_held : Nat → Option Nat) (a0 : Int32) (a1 : Int32) (rr : Int32) (h : mX5_made_n N a0 a1 = some rr) (hk0 : mX5_at N t_size t_held a0 = some none) : Met l yX5_made wsX5_made_n rmX5_made_n (va_Pc [.ref h0, .int a0, .int a1] (fun U => va_P (dC, dI) vwCl [(h0, .inr (4, [.ref h0_held, .int t_size, .ref h0_survey])), (h0_held, .inl (k_t_held, 24, .inr (.inr (.inr (.inr t_held)))))] U.heap ∧ va_K (dC, dI) vwCl [(k_t_held, .object "PointRings$Curve")] U ∧ nw_all U)) (vp_Si (fun r => r = rr)) 0 0 (fun _ => False) := by
  refine Met.ofW (cc := cX5_made) (maxL := 4) (ret := (some .int)) (by decide) rfl ?_
  intro p e s m args below meth c s₁ B hml hv
  obtain ⟨rfl, hP, hK, hN⟩ := hv
  have hx := B.exec
  have hb := B.bytes
  have hr := B.returns
  have hts := atoms_spec (ws := wsX5_made_n) B.pre
  have hown : s.vm.findClass RX5 = some m.cls := findClass_of_methodNamed B.named
  have hlocks := B.notSynchronized
  have hl := lv_entry ([.ref h0, .int a0, .int a1]) (n := 4) (Nat.le_of_ble_eq_true rfl)
  rw [lg_entry_eq]
  generalize (lg_sl ([.ref h0, .int a0, .int a1]) ++ List.replicate (4 - (lg_sl ([.ref h0, .int a0, .int a1])).length) Slot.unset).toArray = ls at hl ⊢
  have hl : lv_has ls 4 [(0, .ref h0), (1, .int a0), (2, .int a1)] := hl
  dsimp only [mX5_made_n] at h
  refine lv_aload_n hx hb dX5_made_0 rfl (lv_at hl 0 rfl) ?_
  refine lv_iload_n hx hb dX5_made_1 rfl (lv_at hl 1 rfl) ?_
  have hPc := hP.sub (ws' := [(h0, .inr (4, [.ref h0_held, .int t_size, .ref h0_survey])), (h0_held, .inl (k_t_held, 24, .inr (.inr (.inr (.inr t_held)))))]) [0, 1] rfl
  have hKc := hK.sub (tys' := [(k_t_held, .object "PointRings$Curve")]) [0] rfl
  refine va_csq (W.runV (As := [.int a0]) (rest := []) ⟨hx, hb, hml, hown, hts⟩ (ctX5_at l N dC dI  h0 h0_held h0_survey k_t_held t_size t_held a0 none hk0) (cwV 1 hts gX5_made_n_X5_at rfl rfl rfl (by decide +kernel) ⟨Nat.le_of_ble_eq_true rfl, Nat.le_of_ble_eq_true rfl⟩) ⟨fun a U g mk q => by obtain ⟨q0, qP, qK, qN⟩ := q; exact ⟨q0, qP, va_K.moved (u := U) (U := U.calling g mk a) (Vm.Alike.refl U.vm) qK, nw_same (u := U) (U := U.calling g mk a) rfl qN⟩, va_recv hKc hPc (ci := 4) (q0 := 0) rfl rfl, fun U hU hW => ⟨rfl, by rw [hU]; exact hPc, va_K.moved hW.alike hKc, nw_warm hW hN⟩⟩ rfl rfl hl.1 rfl (lv_room (Nat.le_of_ble_eq_true rfl)) dX5_made_2 ⟨Nat.le_of_ble_eq_true rfl, Nat.le_of_ble_eq_true rfl⟩) (fun q9 eq9 => ?_)
  subst q9
  refine lv_astore_nN (lv' := [(3, .null), (0, .ref h0), (1, .int a0), (2, .int a1)]) hx hb dX5_made_5 rfl hl (by decide) rfl (fun ls hl => ?_)
  refine lv_aload_nN hx hb dX5_made_6 rfl (lv_at hl 0 rfl) ?_
  refine lv_ifnullN (tgt := 19) hx hb dX5_made_7 (by decide) ?_
  refine lv_bipush (v := (-2)) hx hb dX5_made_19 (by decide) ?_
  have hv : (-2) = rr := Option.some.inj h
  exact W.iret (v := (-2)) hx hb hr (fun t ht hW => ⟨_, rfl, hv, ht⟩) (fun q hq => absurd hq List.not_mem_nil) dX5_made_21
def wsX5_halves_n : List Cond := .code yX5_halves cX5_halves 4 (some .int) :: (([] : List Cond) ++ ((wsV RX5 47 RX5 yX5_at wsX5_at)))
set_option maxRecDepth 20000 in
theorem gX5_halves_n_X5_at : GoodIn wsX5_halves_n (wsV RX5 47 RX5 yX5_at wsX5_at) := goodIn_sub (fun w h => List.mem_cons_of_mem _ (List.mem_append_right _ (h))) (by decide +kernel)
def mX5_halves_n (N : Nat) (a0 : Int32) (a1 : Int32) : Option (Int32) := some (-2)
abbrev rmX5_halves_n : Room := { frames := 1, cells := 0, slots := 0, locals := 21 }
set_option maxHeartbeats 4000000 in
set_option maxRecDepth 100000 in
theorem ctX5_halves_n (l : Launch) (N : Nat) (dC : Nat → ClassId) (dI : Nat → Nat → Nat) (h0 : Nat) (h0_held : Nat) (h0_survey : Nat) (k_t_held : ClassId) (t_size : Int32) (t_held : Nat → Option Nat) (a0 : Int32) (a1 : Int32) (rr : Int32) (h : mX5_halves_n N a0 a1 = some rr) (hk0 : mX5_at N t_size t_held a0 = some none) : Met l yX5_halves wsX5_halves_n rmX5_halves_n (va_Pc [.ref h0, .int a0, .int a1] (fun U => va_P (dC, dI) vwCl [(h0, .inr (4, [.ref h0_held, .int t_size, .ref h0_survey])), (h0_held, .inl (k_t_held, 24, .inr (.inr (.inr (.inr t_held)))))] U.heap ∧ va_K (dC, dI) vwCl [(k_t_held, .object "PointRings$Curve")] U ∧ nw_all U)) (vp_Si (fun r => r = rr)) 0 0 (fun _ => False) := by
  refine Met.ofW (cc := cX5_halves) (maxL := 4) (ret := (some .int)) (by decide) rfl ?_
  intro p e s m args below meth c s₁ B hml hv
  obtain ⟨rfl, hP, hK, hN⟩ := hv
  have hx := B.exec
  have hb := B.bytes
  have hr := B.returns
  have hts := atoms_spec (ws := wsX5_halves_n) B.pre
  have hown : s.vm.findClass RX5 = some m.cls := findClass_of_methodNamed B.named
  have hlocks := B.notSynchronized
  have hl := lv_entry ([.ref h0, .int a0, .int a1]) (n := 4) (Nat.le_of_ble_eq_true rfl)
  rw [lg_entry_eq]
  generalize (lg_sl ([.ref h0, .int a0, .int a1]) ++ List.replicate (4 - (lg_sl ([.ref h0, .int a0, .int a1])).length) Slot.unset).toArray = ls at hl ⊢
  have hl : lv_has ls 4 [(0, .ref h0), (1, .int a0), (2, .int a1)] := hl
  dsimp only [mX5_halves_n] at h
  refine lv_aload_n hx hb dX5_halves_0 rfl (lv_at hl 0 rfl) ?_
  refine lv_iload_n hx hb dX5_halves_1 rfl (lv_at hl 1 rfl) ?_
  have hPc := hP.sub (ws' := [(h0, .inr (4, [.ref h0_held, .int t_size, .ref h0_survey])), (h0_held, .inl (k_t_held, 24, .inr (.inr (.inr (.inr t_held)))))]) [0, 1] rfl
  have hKc := hK.sub (tys' := [(k_t_held, .object "PointRings$Curve")]) [0] rfl
  refine va_csq (W.runV (As := [.int a0]) (rest := []) ⟨hx, hb, hml, hown, hts⟩ (ctX5_at l N dC dI  h0 h0_held h0_survey k_t_held t_size t_held a0 none hk0) (cwV 1 hts gX5_halves_n_X5_at rfl rfl rfl (by decide +kernel) ⟨Nat.le_of_ble_eq_true rfl, Nat.le_of_ble_eq_true rfl⟩) ⟨fun a U g mk q => by obtain ⟨q0, qP, qK, qN⟩ := q; exact ⟨q0, qP, va_K.moved (u := U) (U := U.calling g mk a) (Vm.Alike.refl U.vm) qK, nw_same (u := U) (U := U.calling g mk a) rfl qN⟩, va_recv hKc hPc (ci := 4) (q0 := 0) rfl rfl, fun U hU hW => ⟨rfl, by rw [hU]; exact hPc, va_K.moved hW.alike hKc, nw_warm hW hN⟩⟩ rfl rfl hl.1 rfl (lv_room (Nat.le_of_ble_eq_true rfl)) dX5_halves_2 ⟨Nat.le_of_ble_eq_true rfl, Nat.le_of_ble_eq_true rfl⟩) (fun q9 eq9 => ?_)
  subst q9
  refine lv_astore_nN (lv' := [(3, .null), (0, .ref h0), (1, .int a0), (2, .int a1)]) hx hb dX5_halves_5 rfl hl (by decide) rfl (fun ls hl => ?_)
  refine lv_aload_nN hx hb dX5_halves_6 rfl (lv_at hl 0 rfl) ?_
  refine lv_ifnullN (tgt := 18) hx hb dX5_halves_7 (by decide) ?_
  refine lv_bipush (v := (-2)) hx hb dX5_halves_18 (by decide) ?_
  refine lv_goto (tgt := 32) hx hb dX5_halves_20 (by decide) ?_
  have hv : (-2) = rr := Option.some.inj h
  exact W.iret (v := (-2)) hx hb hr (fun t ht hW => ⟨_, rfl, hv, ht⟩) (fun q hq => absurd hq List.not_mem_nil) dX5_halves_32
def wsX5_half_n : List Cond := .code yX5_half cX5_half 5 (some .int) :: (([] : List Cond) ++ ((wsV RX5 47 RX5 yX5_at wsX5_at)))
set_option maxRecDepth 20000 in
theorem gX5_half_n_X5_at : GoodIn wsX5_half_n (wsV RX5 47 RX5 yX5_at wsX5_at) := goodIn_sub (fun w h => List.mem_cons_of_mem _ (List.mem_append_right _ (h))) (by decide +kernel)
def mX5_half_n (N : Nat) (a0 : Int32) (a1 : Int32) (a2 : Int32) : Option (Int32) := some (-2)
abbrev rmX5_half_n : Room := { frames := 1, cells := 0, slots := 0, locals := 21 }
set_option maxHeartbeats 4000000 in
set_option maxRecDepth 100000 in
theorem ctX5_half_n (l : Launch) (N : Nat) (dC : Nat → ClassId) (dI : Nat → Nat → Nat) (h0 : Nat) (h0_held : Nat) (h0_survey : Nat) (k_t_held : ClassId) (t_size : Int32) (t_held : Nat → Option Nat) (a0 : Int32) (a1 : Int32) (a2 : Int32) (rr : Int32) (h : mX5_half_n N a0 a1 a2 = some rr) (hk0 : mX5_at N t_size t_held a0 = some none) : Met l yX5_half wsX5_half_n rmX5_half_n (va_Pc [.ref h0, .int a0, .int a1, .int a2] (fun U => va_P (dC, dI) vwCl [(h0, .inr (4, [.ref h0_held, .int t_size, .ref h0_survey])), (h0_held, .inl (k_t_held, 24, .inr (.inr (.inr (.inr t_held)))))] U.heap ∧ va_K (dC, dI) vwCl [(k_t_held, .object "PointRings$Curve")] U ∧ nw_all U)) (vp_Si (fun r => r = rr)) 0 0 (fun _ => False) := by
  refine Met.ofW (cc := cX5_half) (maxL := 5) (ret := (some .int)) (by decide) rfl ?_
  intro p e s m args below meth c s₁ B hml hv
  obtain ⟨rfl, hP, hK, hN⟩ := hv
  have hx := B.exec
  have hb := B.bytes
  have hr := B.returns
  have hts := atoms_spec (ws := wsX5_half_n) B.pre
  have hown : s.vm.findClass RX5 = some m.cls := findClass_of_methodNamed B.named
  have hlocks := B.notSynchronized
  have hl := lv_entry ([.ref h0, .int a0, .int a1, .int a2]) (n := 5) (Nat.le_of_ble_eq_true rfl)
  rw [lg_entry_eq]
  generalize (lg_sl ([.ref h0, .int a0, .int a1, .int a2]) ++ List.replicate (5 - (lg_sl ([.ref h0, .int a0, .int a1, .int a2])).length) Slot.unset).toArray = ls at hl ⊢
  have hl : lv_has ls 5 [(0, .ref h0), (1, .int a0), (2, .int a1), (3, .int a2)] := hl
  dsimp only [mX5_half_n] at h
  refine lv_aload_n hx hb dX5_half_0 rfl (lv_at hl 0 rfl) ?_
  refine lv_iload_n hx hb dX5_half_1 rfl (lv_at hl 1 rfl) ?_
  have hPc := hP.sub (ws' := [(h0, .inr (4, [.ref h0_held, .int t_size, .ref h0_survey])), (h0_held, .inl (k_t_held, 24, .inr (.inr (.inr (.inr t_held)))))]) [0, 1] rfl
  have hKc := hK.sub (tys' := [(k_t_held, .object "PointRings$Curve")]) [0] rfl
  refine va_csq (W.runV (As := [.int a0]) (rest := []) ⟨hx, hb, hml, hown, hts⟩ (ctX5_at l N dC dI  h0 h0_held h0_survey k_t_held t_size t_held a0 none hk0) (cwV 1 hts gX5_half_n_X5_at rfl rfl rfl (by decide +kernel) ⟨Nat.le_of_ble_eq_true rfl, Nat.le_of_ble_eq_true rfl⟩) ⟨fun a U g mk q => by obtain ⟨q0, qP, qK, qN⟩ := q; exact ⟨q0, qP, va_K.moved (u := U) (U := U.calling g mk a) (Vm.Alike.refl U.vm) qK, nw_same (u := U) (U := U.calling g mk a) rfl qN⟩, va_recv hKc hPc (ci := 4) (q0 := 0) rfl rfl, fun U hU hW => ⟨rfl, by rw [hU]; exact hPc, va_K.moved hW.alike hKc, nw_warm hW hN⟩⟩ rfl rfl hl.1 rfl (lv_room (Nat.le_of_ble_eq_true rfl)) dX5_half_2 ⟨Nat.le_of_ble_eq_true rfl, Nat.le_of_ble_eq_true rfl⟩) (fun q9 eq9 => ?_)
  subst q9
  refine lv_astoreN (lv' := [(4, .null), (0, .ref h0), (1, .int a0), (2, .int a1), (3, .int a2)]) hx hb dX5_half_5 hl (by decide) rfl (fun ls hl => ?_)
  refine lv_aloadN hx hb dX5_half_7 (lv_at hl 0 rfl) ?_
  refine lv_ifnullN (tgt := 21) hx hb dX5_half_9 (by decide) ?_
  refine lv_bipush (v := (-2)) hx hb dX5_half_21 (by decide) ?_
  have hv : (-2) = rr := Option.some.inj h
  exact W.iret (v := (-2)) hx hb hr (fun t ht hW => ⟨_, rfl, hv, ht⟩) (fun q hq => absurd hq List.not_mem_nil) dX5_half_23
def wsX5_log_n : List Cond := .code yX5_log cX5_log 5 (some .int) :: (([] : List Cond) ++ ((wsV RX5 47 RX5 yX5_at wsX5_at)))
set_option maxRecDepth 20000 in
theorem gX5_log_n_X5_at : GoodIn wsX5_log_n (wsV RX5 47 RX5 yX5_at wsX5_at) := goodIn_sub (fun w h => List.mem_cons_of_mem _ (List.mem_append_right _ (h))) (by decide +kernel)
def mX5_log_n (N : Nat) (a0 : Int32) (a1 : Int32) (a2 : Int32) : Option (Int32) := some (-2)
abbrev rmX5_log_n : Room := { frames := 1, cells := 0, slots := 0, locals := 21 }
set_option maxHeartbeats 4000000 in
set_option maxRecDepth 100000 in
theorem ctX5_log_n (l : Launch) (N : Nat) (dC : Nat → ClassId) (dI : Nat → Nat → Nat) (h0 : Nat) (h0_held : Nat) (h0_survey : Nat) (k_t_held : ClassId) (t_size : Int32) (t_held : Nat → Option Nat) (a0 : Int32) (a1 : Int32) (a2 : Int32) (rr : Int32) (h : mX5_log_n N a0 a1 a2 = some rr) (hk0 : mX5_at N t_size t_held a0 = some none) : Met l yX5_log wsX5_log_n rmX5_log_n (va_Pc [.ref h0, .int a0, .int a1, .int a2] (fun U => va_P (dC, dI) vwCl [(h0, .inr (4, [.ref h0_held, .int t_size, .ref h0_survey])), (h0_held, .inl (k_t_held, 24, .inr (.inr (.inr (.inr t_held)))))] U.heap ∧ va_K (dC, dI) vwCl [(k_t_held, .object "PointRings$Curve")] U ∧ nw_all U)) (vp_Si (fun r => r = rr)) 0 0 (fun _ => False) := by
  refine Met.ofW (cc := cX5_log) (maxL := 5) (ret := (some .int)) (by decide) rfl ?_
  intro p e s m args below meth c s₁ B hml hv
  obtain ⟨rfl, hP, hK, hN⟩ := hv
  have hx := B.exec
  have hb := B.bytes
  have hr := B.returns
  have hts := atoms_spec (ws := wsX5_log_n) B.pre
  have hown : s.vm.findClass RX5 = some m.cls := findClass_of_methodNamed B.named
  have hlocks := B.notSynchronized
  have hl := lv_entry ([.ref h0, .int a0, .int a1, .int a2]) (n := 5) (Nat.le_of_ble_eq_true rfl)
  rw [lg_entry_eq]
  generalize (lg_sl ([.ref h0, .int a0, .int a1, .int a2]) ++ List.replicate (5 - (lg_sl ([.ref h0, .int a0, .int a1, .int a2])).length) Slot.unset).toArray = ls at hl ⊢
  have hl : lv_has ls 5 [(0, .ref h0), (1, .int a0), (2, .int a1), (3, .int a2)] := hl
  dsimp only [mX5_log_n] at h
  refine lv_aload_n hx hb dX5_log_0 rfl (lv_at hl 0 rfl) ?_
  refine lv_iload_n hx hb dX5_log_1 rfl (lv_at hl 1 rfl) ?_
  have hPc := hP.sub (ws' := [(h0, .inr (4, [.ref h0_held, .int t_size, .ref h0_survey])), (h0_held, .inl (k_t_held, 24, .inr (.inr (.inr (.inr t_held)))))]) [0, 1] rfl
  have hKc := hK.sub (tys' := [(k_t_held, .object "PointRings$Curve")]) [0] rfl
  refine va_csq (W.runV (As := [.int a0]) (rest := []) ⟨hx, hb, hml, hown, hts⟩ (ctX5_at l N dC dI  h0 h0_held h0_survey k_t_held t_size t_held a0 none hk0) (cwV 1 hts gX5_log_n_X5_at rfl rfl rfl (by decide +kernel) ⟨Nat.le_of_ble_eq_true rfl, Nat.le_of_ble_eq_true rfl⟩) ⟨fun a U g mk q => by obtain ⟨q0, qP, qK, qN⟩ := q; exact ⟨q0, qP, va_K.moved (u := U) (U := U.calling g mk a) (Vm.Alike.refl U.vm) qK, nw_same (u := U) (U := U.calling g mk a) rfl qN⟩, va_recv hKc hPc (ci := 4) (q0 := 0) rfl rfl, fun U hU hW => ⟨rfl, by rw [hU]; exact hPc, va_K.moved hW.alike hKc, nw_warm hW hN⟩⟩ rfl rfl hl.1 rfl (lv_room (Nat.le_of_ble_eq_true rfl)) dX5_log_2 ⟨Nat.le_of_ble_eq_true rfl, Nat.le_of_ble_eq_true rfl⟩) (fun q9 eq9 => ?_)
  subst q9
  refine lv_astoreN (lv' := [(4, .null), (0, .ref h0), (1, .int a0), (2, .int a1), (3, .int a2)]) hx hb dX5_log_5 hl (by decide) rfl (fun ls hl => ?_)
  refine lv_aloadN hx hb dX5_log_7 (lv_at hl 0 rfl) ?_
  refine lv_ifnullN (tgt := 30) hx hb dX5_log_9 (by decide) ?_
  refine lv_bipush (v := (-2)) hx hb dX5_log_30 (by decide) ?_
  have hv : (-2) = rr := Option.some.inj h
  exact W.iret (v := (-2)) hx hb hr (fun t ht hW => ⟨_, rfl, hv, ht⟩) (fun q hq => absurd hq List.not_mem_nil) dX5_log_32
def wsX5_embedding_n : List Cond := .code yX5_embedding cX5_embedding 4 (some .int) :: (([] : List Cond) ++ ((wsV RX5 47 RX5 yX5_at wsX5_at)))
set_option maxRecDepth 20000 in
theorem gX5_embedding_n_X5_at : GoodIn wsX5_embedding_n (wsV RX5 47 RX5 yX5_at wsX5_at) := goodIn_sub (fun w h => List.mem_cons_of_mem _ (List.mem_append_right _ (h))) (by decide +kernel)
def mX5_embedding_n (N : Nat) (a0 : Int32) (a1 : Int32) : Option (Int32) := some (-2)
abbrev rmX5_embedding_n : Room := { frames := 1, cells := 0, slots := 0, locals := 21 }
set_option maxHeartbeats 4000000 in
set_option maxRecDepth 100000 in
theorem ctX5_embedding_n (l : Launch) (N : Nat) (dC : Nat → ClassId) (dI : Nat → Nat → Nat) (h0 : Nat) (h0_held : Nat) (h0_survey : Nat) (k_t_held : ClassId) (t_size : Int32) (t_held : Nat → Option Nat) (a0 : Int32) (a1 : Int32) (rr : Int32) (h : mX5_embedding_n N a0 a1 = some rr) (hk0 : mX5_at N t_size t_held a0 = some none) : Met l yX5_embedding wsX5_embedding_n rmX5_embedding_n (va_Pc [.ref h0, .int a0, .int a1] (fun U => va_P (dC, dI) vwCl [(h0, .inr (4, [.ref h0_held, .int t_size, .ref h0_survey])), (h0_held, .inl (k_t_held, 24, .inr (.inr (.inr (.inr t_held)))))] U.heap ∧ va_K (dC, dI) vwCl [(k_t_held, .object "PointRings$Curve")] U ∧ nw_all U)) (vp_Si (fun r => r = rr)) 0 0 (fun _ => False) := by
  refine Met.ofW (cc := cX5_embedding) (maxL := 4) (ret := (some .int)) (by decide) rfl ?_
  intro p e s m args below meth c s₁ B hml hv
  obtain ⟨rfl, hP, hK, hN⟩ := hv
  have hx := B.exec
  have hb := B.bytes
  have hr := B.returns
  have hts := atoms_spec (ws := wsX5_embedding_n) B.pre
  have hown : s.vm.findClass RX5 = some m.cls := findClass_of_methodNamed B.named
  have hlocks := B.notSynchronized
  have hl := lv_entry ([.ref h0, .int a0, .int a1]) (n := 4) (Nat.le_of_ble_eq_true rfl)
  rw [lg_entry_eq]
  generalize (lg_sl ([.ref h0, .int a0, .int a1]) ++ List.replicate (4 - (lg_sl ([.ref h0, .int a0, .int a1])).length) Slot.unset).toArray = ls at hl ⊢
  have hl : lv_has ls 4 [(0, .ref h0), (1, .int a0), (2, .int a1)] := hl
  dsimp only [mX5_embedding_n] at h
  refine lv_aload_n hx hb dX5_embedding_0 rfl (lv_at hl 0 rfl) ?_
  refine lv_iload_n hx hb dX5_embedding_1 rfl (lv_at hl 1 rfl) ?_
  have hPc := hP.sub (ws' := [(h0, .inr (4, [.ref h0_held, .int t_size, .ref h0_survey])), (h0_held, .inl (k_t_held, 24, .inr (.inr (.inr (.inr t_held)))))]) [0, 1] rfl
  have hKc := hK.sub (tys' := [(k_t_held, .object "PointRings$Curve")]) [0] rfl
  refine va_csq (W.runV (As := [.int a0]) (rest := []) ⟨hx, hb, hml, hown, hts⟩ (ctX5_at l N dC dI  h0 h0_held h0_survey k_t_held t_size t_held a0 none hk0) (cwV 1 hts gX5_embedding_n_X5_at rfl rfl rfl (by decide +kernel) ⟨Nat.le_of_ble_eq_true rfl, Nat.le_of_ble_eq_true rfl⟩) ⟨fun a U g mk q => by obtain ⟨q0, qP, qK, qN⟩ := q; exact ⟨q0, qP, va_K.moved (u := U) (U := U.calling g mk a) (Vm.Alike.refl U.vm) qK, nw_same (u := U) (U := U.calling g mk a) rfl qN⟩, va_recv hKc hPc (ci := 4) (q0 := 0) rfl rfl, fun U hU hW => ⟨rfl, by rw [hU]; exact hPc, va_K.moved hW.alike hKc, nw_warm hW hN⟩⟩ rfl rfl hl.1 rfl (lv_room (Nat.le_of_ble_eq_true rfl)) dX5_embedding_2 ⟨Nat.le_of_ble_eq_true rfl, Nat.le_of_ble_eq_true rfl⟩) (fun q9 eq9 => ?_)
  subst q9
  refine lv_astore_nN (lv' := [(3, .null), (0, .ref h0), (1, .int a0), (2, .int a1)]) hx hb dX5_embedding_5 rfl hl (by decide) rfl (fun ls hl => ?_)
  refine lv_aload_nN hx hb dX5_embedding_6 rfl (lv_at hl 0 rfl) ?_
  refine lv_ifnullN (tgt := 22) hx hb dX5_embedding_7 (by decide) ?_
  refine lv_bipush (v := (-2)) hx hb dX5_embedding_22 (by decide) ?_
  have hv : (-2) = rr := Option.some.inj h
  exact W.iret (v := (-2)) hx hb hr (fun t ht hW => ⟨_, rfl, hv, ht⟩) (fun q hq => absurd hq List.not_mem_nil) dX5_embedding_24
def wsX5_quotient_n : List Cond := .code yX5_quotient cX5_quotient 5 (some .int) :: (([] : List Cond) ++ ((wsV RX5 47 RX5 yX5_at wsX5_at)))
set_option maxRecDepth 20000 in
theorem gX5_quotient_n_X5_at : GoodIn wsX5_quotient_n (wsV RX5 47 RX5 yX5_at wsX5_at) := goodIn_sub (fun w h => List.mem_cons_of_mem _ (List.mem_append_right _ (h))) (by decide +kernel)
def mX5_quotient_n (N : Nat) (a0 : Int32) (a1 : Int32) : Option (Int32) := some (-2)
abbrev rmX5_quotient_n : Room := { frames := 1, cells := 0, slots := 0, locals := 21 }
set_option maxHeartbeats 4000000 in
set_option maxRecDepth 100000 in
theorem ctX5_quotient_n (l : Launch) (N : Nat) (dC : Nat → ClassId) (dI : Nat → Nat → Nat) (h0 : Nat) (h0_held : Nat) (h0_survey : Nat) (k_t_held : ClassId) (t_size : Int32) (t_held : Nat → Option Nat) (a0 : Int32) (a1 : Int32) (rr : Int32) (h : mX5_quotient_n N a0 a1 = some rr) (hk0 : mX5_at N t_size t_held a0 = some none) : Met l yX5_quotient wsX5_quotient_n rmX5_quotient_n (va_Pc [.ref h0, .int a0, .int a1] (fun U => va_P (dC, dI) vwCl [(h0, .inr (4, [.ref h0_held, .int t_size, .ref h0_survey])), (h0_held, .inl (k_t_held, 24, .inr (.inr (.inr (.inr t_held)))))] U.heap ∧ va_K (dC, dI) vwCl [(k_t_held, .object "PointRings$Curve")] U ∧ nw_all U)) (vp_Si (fun r => r = rr)) 0 0 (fun _ => False) := by
  refine Met.ofW (cc := cX5_quotient) (maxL := 5) (ret := (some .int)) (by decide) rfl ?_
  intro p e s m args below meth c s₁ B hml hv
  obtain ⟨rfl, hP, hK, hN⟩ := hv
  have hx := B.exec
  have hb := B.bytes
  have hr := B.returns
  have hts := atoms_spec (ws := wsX5_quotient_n) B.pre
  have hown : s.vm.findClass RX5 = some m.cls := findClass_of_methodNamed B.named
  have hlocks := B.notSynchronized
  have hl := lv_entry ([.ref h0, .int a0, .int a1]) (n := 5) (Nat.le_of_ble_eq_true rfl)
  rw [lg_entry_eq]
  generalize (lg_sl ([.ref h0, .int a0, .int a1]) ++ List.replicate (5 - (lg_sl ([.ref h0, .int a0, .int a1])).length) Slot.unset).toArray = ls at hl ⊢
  have hl : lv_has ls 5 [(0, .ref h0), (1, .int a0), (2, .int a1)] := hl
  dsimp only [mX5_quotient_n] at h
  refine lv_aload_n hx hb dX5_quotient_0 rfl (lv_at hl 0 rfl) ?_
  refine lv_iload_n hx hb dX5_quotient_1 rfl (lv_at hl 1 rfl) ?_
  have hPc := hP.sub (ws' := [(h0, .inr (4, [.ref h0_held, .int t_size, .ref h0_survey])), (h0_held, .inl (k_t_held, 24, .inr (.inr (.inr (.inr t_held)))))]) [0, 1] rfl
  have hKc := hK.sub (tys' := [(k_t_held, .object "PointRings$Curve")]) [0] rfl
  refine va_csq (W.runV (As := [.int a0]) (rest := []) ⟨hx, hb, hml, hown, hts⟩ (ctX5_at l N dC dI  h0 h0_held h0_survey k_t_held t_size t_held a0 none hk0) (cwV 1 hts gX5_quotient_n_X5_at rfl rfl rfl (by decide +kernel) ⟨Nat.le_of_ble_eq_true rfl, Nat.le_of_ble_eq_true rfl⟩) ⟨fun a U g mk q => by obtain ⟨q0, qP, qK, qN⟩ := q; exact ⟨q0, qP, va_K.moved (u := U) (U := U.calling g mk a) (Vm.Alike.refl U.vm) qK, nw_same (u := U) (U := U.calling g mk a) rfl qN⟩, va_recv hKc hPc (ci := 4) (q0 := 0) rfl rfl, fun U hU hW => ⟨rfl, by rw [hU]; exact hPc, va_K.moved hW.alike hKc, nw_warm hW hN⟩⟩ rfl rfl hl.1 rfl (lv_room (Nat.le_of_ble_eq_true rfl)) dX5_quotient_2 ⟨Nat.le_of_ble_eq_true rfl, Nat.le_of_ble_eq_true rfl⟩) (fun q9 eq9 => ?_)
  subst q9
  refine lv_astore_nN (lv' := [(3, .null), (0, .ref h0), (1, .int a0), (2, .int a1)]) hx hb dX5_quotient_5 rfl hl (by decide) rfl (fun ls hl => ?_)
  refine lv_aload_nN hx hb dX5_quotient_6 rfl (lv_at hl 0 rfl) ?_
  refine lv_ifnullN (tgt := 18) hx hb dX5_quotient_7 (by decide) ?_
  refine lv_bipush (v := (-2)) hx hb dX5_quotient_18 (by decide) ?_
  have hv : (-2) = rr := Option.some.inj h
  exact W.iret (v := (-2)) hx hb hr (fun t ht hW => ⟨_, rfl, hv, ht⟩) (fun q hq => absurd hq List.not_mem_nil) dX5_quotient_20
def wsX5_madeByKernel_n : List Cond := .code yX5_madeByKernel cX5_madeByKernel 3 (some (.object "PointRings$Curve")) :: (([] : List Cond) ++ ((wsV RX5 47 RX5 yX5_at wsX5_at)))
set_option maxRecDepth 20000 in
theorem gX5_madeByKernel_n_X5_at : GoodIn wsX5_madeByKernel_n (wsV RX5 47 RX5 yX5_at wsX5_at) := goodIn_sub (fun w h => List.mem_cons_of_mem _ (List.mem_append_right _ (h))) (by decide +kernel)
def mX5_madeByKernel_n (N : Nat) (a0 : Int32) : Option (Option Nat) := some none
abbrev rmX5_madeByKernel_n : Room := { frames := 1, cells := 0, slots := 0, locals := 21 }
set_option maxHeartbeats 4000000 in
set_option maxRecDepth 100000 in
theorem ctX5_madeByKernel_n (l : Launch) (N : Nat) (dC : Nat → ClassId) (dI : Nat → Nat → Nat) (h0 : Nat) (h0_held : Nat) (h0_survey : Nat) (k_t_held : ClassId) (t_size : Int32) (t_held : Nat → Option Nat) (a0 : Int32) (rr : Option Nat) (h : mX5_madeByKernel_n N a0 = some rr) (hk0 : mX5_at N t_size t_held a0 = some none) : Met l yX5_madeByKernel wsX5_madeByKernel_n rmX5_madeByKernel_n (va_Pc [.ref h0, .int a0] (fun U => va_P (dC, dI) vwCl [(h0, .inr (4, [.ref h0_held, .int t_size, .ref h0_survey])), (h0_held, .inl (k_t_held, 24, .inr (.inr (.inr (.inr t_held)))))] U.heap ∧ va_K (dC, dI) vwCl [(k_t_held, .object "PointRings$Curve")] U ∧ nw_all U)) (va_Sq (fun r => r = rr)) 0 0 (fun _ => False) := by
  refine Met.ofW (cc := cX5_madeByKernel) (maxL := 3) (ret := (some (.object "PointRings$Curve"))) (by decide) rfl ?_
  intro p e s m args below meth c s₁ B hml hv
  obtain ⟨rfl, hP, hK, hN⟩ := hv
  have hx := B.exec
  have hb := B.bytes
  have hr := B.returns
  have hts := atoms_spec (ws := wsX5_madeByKernel_n) B.pre
  have hown : s.vm.findClass RX5 = some m.cls := findClass_of_methodNamed B.named
  have hlocks := B.notSynchronized
  have hl := lv_entry ([.ref h0, .int a0]) (n := 3) (Nat.le_of_ble_eq_true rfl)
  rw [lg_entry_eq]
  generalize (lg_sl ([.ref h0, .int a0]) ++ List.replicate (3 - (lg_sl ([.ref h0, .int a0])).length) Slot.unset).toArray = ls at hl ⊢
  have hl : lv_has ls 3 [(0, .ref h0), (1, .int a0)] := hl
  dsimp only [mX5_madeByKernel_n] at h
  refine lv_aload_n hx hb dX5_madeByKernel_0 rfl (lv_at hl 0 rfl) ?_
  refine lv_iload_n hx hb dX5_madeByKernel_1 rfl (lv_at hl 1 rfl) ?_
  have hPc := hP.sub (ws' := [(h0, .inr (4, [.ref h0_held, .int t_size, .ref h0_survey])), (h0_held, .inl (k_t_held, 24, .inr (.inr (.inr (.inr t_held)))))]) [0, 1] rfl
  have hKc := hK.sub (tys' := [(k_t_held, .object "PointRings$Curve")]) [0] rfl
  refine va_csq (W.runV (As := [.int a0]) (rest := []) ⟨hx, hb, hml, hown, hts⟩ (ctX5_at l N dC dI  h0 h0_held h0_survey k_t_held t_size t_held a0 none hk0) (cwV 1 hts gX5_madeByKernel_n_X5_at rfl rfl rfl (by decide +kernel) ⟨Nat.le_of_ble_eq_true rfl, Nat.le_of_ble_eq_true rfl⟩) ⟨fun a U g mk q => by obtain ⟨q0, qP, qK, qN⟩ := q; exact ⟨q0, qP, va_K.moved (u := U) (U := U.calling g mk a) (Vm.Alike.refl U.vm) qK, nw_same (u := U) (U := U.calling g mk a) rfl qN⟩, va_recv hKc hPc (ci := 4) (q0 := 0) rfl rfl, fun U hU hW => ⟨rfl, by rw [hU]; exact hPc, va_K.moved hW.alike hKc, nw_warm hW hN⟩⟩ rfl rfl hl.1 rfl (lv_room (Nat.le_of_ble_eq_true rfl)) dX5_madeByKernel_2 ⟨Nat.le_of_ble_eq_true rfl, Nat.le_of_ble_eq_true rfl⟩) (fun q9 eq9 => ?_)
  subst q9
  refine lv_astore_nN (lv' := [(2, .null), (0, .ref h0), (1, .int a0)]) hx hb dX5_madeByKernel_5 rfl hl (by decide) rfl (fun ls hl => ?_)
  refine lv_aload_nN hx hb dX5_madeByKernel_6 rfl (lv_at hl 0 rfl) ?_
  refine lv_ifnullN (tgt := 17) hx hb dX5_madeByKernel_7 (by decide) ?_
  refine lv_null hx hb dX5_madeByKernel_17 ?_
  refine lv_goto (tgt := 22) hx hb dX5_madeByKernel_18 (by decide) ?_
  have hv : none = rr := Option.some.inj h
  exact W.aret (v := .null) hx hb hr (Or.inl ⟨_, rfl⟩) (Or.inl rfl) (fun t ht hW => ⟨none, rfl, hv, ht⟩) (fun q hq => absurd hq List.not_mem_nil) dX5_madeByKernel_22
def wsX5_image_n : List Cond := .code yX5_image cX5_image 5 (some .int) :: (([] : List Cond) ++ ((wsV RX5 193 RX5 yX5_madeByKernel wsX5_madeByKernel_n)))
set_option maxRecDepth 20000 in
theorem gX5_image_n_X5_madeByKernel_n : GoodIn wsX5_image_n (wsV RX5 193 RX5 yX5_madeByKernel wsX5_madeByKernel_n) := goodIn_sub (fun w h => List.mem_cons_of_mem _ (List.mem_append_right _ (h))) (by decide +kernel)
def mX5_image_n (N : Nat) (a0 : Int32) (a1 : Int32) : Option (Int32) := some (-2)
abbrev rmX5_image_n : Room := { frames := 2, cells := 0, slots := 0, locals := 43 }
set_option maxHeartbeats 4000000 in
set_option maxRecDepth 100000 in
theorem ctX5_image_n (l : Launch) (N : Nat) (dC : Nat → ClassId) (dI : Nat → Nat → Nat) (h0 : Nat) (h0_held : Nat) (h0_survey : Nat) (k_t_held : ClassId) (t_size : Int32) (t_held : Nat → Option Nat) (a0 : Int32) (a1 : Int32) (rr : Int32) (h : mX5_image_n N a0 a1 = some rr) (hk0 : mX5_at N t_size t_held a0 = some none) (hk1 : mX5_madeByKernel_n N a0 = some none) : Met l yX5_image wsX5_image_n rmX5_image_n (va_Pc [.ref h0, .int a0, .int a1] (fun U => va_P (dC, dI) vwCl [(h0, .inr (4, [.ref h0_held, .int t_size, .ref h0_survey])), (h0_held, .inl (k_t_held, 24, .inr (.inr (.inr (.inr t_held)))))] U.heap ∧ va_K (dC, dI) vwCl [(k_t_held, .object "PointRings$Curve")] U ∧ nw_all U)) (vp_Si (fun r => r = rr)) 0 0 (fun _ => False) := by
  refine Met.ofW (cc := cX5_image) (maxL := 5) (ret := (some .int)) (by decide) rfl ?_
  intro p e s m args below meth c s₁ B hml hv
  obtain ⟨rfl, hP, hK, hN⟩ := hv
  have hx := B.exec
  have hb := B.bytes
  have hr := B.returns
  have hts := atoms_spec (ws := wsX5_image_n) B.pre
  have hown : s.vm.findClass RX5 = some m.cls := findClass_of_methodNamed B.named
  have hlocks := B.notSynchronized
  have hl := lv_entry ([.ref h0, .int a0, .int a1]) (n := 5) (Nat.le_of_ble_eq_true rfl)
  rw [lg_entry_eq]
  generalize (lg_sl ([.ref h0, .int a0, .int a1]) ++ List.replicate (5 - (lg_sl ([.ref h0, .int a0, .int a1])).length) Slot.unset).toArray = ls at hl ⊢
  have hl : lv_has ls 5 [(0, .ref h0), (1, .int a0), (2, .int a1)] := hl
  dsimp only [mX5_image_n] at h
  refine lv_aload_n hx hb dX5_image_0 rfl (lv_at hl 0 rfl) ?_
  refine lv_iload_n hx hb dX5_image_1 rfl (lv_at hl 1 rfl) ?_
  have hPc := hP.sub (ws' := [(h0, .inr (4, [.ref h0_held, .int t_size, .ref h0_survey])), (h0_held, .inl (k_t_held, 24, .inr (.inr (.inr (.inr t_held)))))]) [0, 1] rfl
  have hKc := hK.sub (tys' := [(k_t_held, .object "PointRings$Curve")]) [0] rfl
  refine va_csq (W.runV (As := [.int a0]) (rest := []) ⟨hx, hb, hml, hown, hts⟩ (ctX5_madeByKernel_n l N dC dI  h0 h0_held h0_survey k_t_held t_size t_held a0 none hk1 hk0) (cwV 1 hts gX5_image_n_X5_madeByKernel_n rfl rfl rfl (by decide +kernel) ⟨Nat.le_of_ble_eq_true rfl, Nat.le_of_ble_eq_true rfl⟩) ⟨fun a U g mk q => by obtain ⟨q0, qP, qK, qN⟩ := q; exact ⟨q0, qP, va_K.moved (u := U) (U := U.calling g mk a) (Vm.Alike.refl U.vm) qK, nw_same (u := U) (U := U.calling g mk a) rfl qN⟩, va_recv hKc hPc (ci := 4) (q0 := 0) rfl rfl, fun U hU hW => ⟨rfl, by rw [hU]; exact hPc, va_K.moved hW.alike hKc, nw_warm hW hN⟩⟩ rfl rfl hl.1 rfl (lv_room (Nat.le_of_ble_eq_true rfl)) dX5_image_2 ⟨Nat.le_of_ble_eq_true rfl, Nat.le_of_ble_eq_true rfl⟩) (fun q9 eq9 => ?_)
  subst q9
  refine lv_astore_nN (lv' := [(3, .null), (0, .ref h0), (1, .int a0), (2, .int a1)]) hx hb dX5_image_5 rfl hl (by decide) rfl (fun ls hl => ?_)
  refine lv_aload_nN hx hb dX5_image_6 rfl (lv_at hl 0 rfl) ?_
  refine lv_ifnonnullN hx hb dX5_image_7 ?_
  refine lv_null hx hb dX5_image_10 ?_
  refine lv_goto (tgt := 22) hx hb dX5_image_11 (by decide) ?_
  refine lv_astoreN (lv' := [(4, .null), (3, .null), (0, .ref h0), (1, .int a0), (2, .int a1)]) hx hb dX5_image_22 hl (by decide) rfl (fun ls hl => ?_)
  refine lv_aloadN hx hb dX5_image_24 (lv_at hl 0 rfl) ?_
  refine lv_ifnullN (tgt := 38) hx hb dX5_image_26 (by decide) ?_
  refine lv_bipush (v := (-2)) hx hb dX5_image_38 (by decide) ?_
  have hv : (-2) = rr := Option.some.inj h
  exact W.iret (v := (-2)) hx hb hr (fun t ht hW => ⟨_, rfl, hv, ht⟩) (fun q hq => absurd hq List.not_mem_nil) dX5_image_40
def wsX5_kernel_n : List Cond := .code yX5_kernel cX5_kernel 4 (some .int) :: (([] : List Cond) ++ ((wsV RX5 193 RX5 yX5_madeByKernel wsX5_madeByKernel_n)))
set_option maxRecDepth 20000 in
theorem gX5_kernel_n_X5_madeByKernel_n : GoodIn wsX5_kernel_n (wsV RX5 193 RX5 yX5_madeByKernel wsX5_madeByKernel_n) := goodIn_sub (fun w h => List.mem_cons_of_mem _ (List.mem_append_right _ (h))) (by decide +kernel)
def mX5_kernel_n (N : Nat) (a0 : Int32) (a1 : Int32) : Option (Int32) := some (-2)
abbrev rmX5_kernel_n : Room := { frames := 2, cells := 0, slots := 0, locals := 43 }
set_option maxHeartbeats 4000000 in
set_option maxRecDepth 100000 in
theorem ctX5_kernel_n (l : Launch) (N : Nat) (dC : Nat → ClassId) (dI : Nat → Nat → Nat) (h0 : Nat) (h0_held : Nat) (h0_survey : Nat) (k_t_held : ClassId) (t_size : Int32) (t_held : Nat → Option Nat) (a0 : Int32) (a1 : Int32) (rr : Int32) (h : mX5_kernel_n N a0 a1 = some rr) (hk0 : mX5_at N t_size t_held a0 = some none) (hk1 : mX5_madeByKernel_n N a0 = some none) : Met l yX5_kernel wsX5_kernel_n rmX5_kernel_n (va_Pc [.ref h0, .int a0, .int a1] (fun U => va_P (dC, dI) vwCl [(h0, .inr (4, [.ref h0_held, .int t_size, .ref h0_survey])), (h0_held, .inl (k_t_held, 24, .inr (.inr (.inr (.inr t_held)))))] U.heap ∧ va_K (dC, dI) vwCl [(k_t_held, .object "PointRings$Curve")] U ∧ nw_all U)) (vp_Si (fun r => r = rr)) 0 0 (fun _ => False) := by
  refine Met.ofW (cc := cX5_kernel) (maxL := 4) (ret := (some .int)) (by decide) rfl ?_
  intro p e s m args below meth c s₁ B hml hv
  obtain ⟨rfl, hP, hK, hN⟩ := hv
  have hx := B.exec
  have hb := B.bytes
  have hr := B.returns
  have hts := atoms_spec (ws := wsX5_kernel_n) B.pre
  have hown : s.vm.findClass RX5 = some m.cls := findClass_of_methodNamed B.named
  have hlocks := B.notSynchronized
  have hl := lv_entry ([.ref h0, .int a0, .int a1]) (n := 4) (Nat.le_of_ble_eq_true rfl)
  rw [lg_entry_eq]
  generalize (lg_sl ([.ref h0, .int a0, .int a1]) ++ List.replicate (4 - (lg_sl ([.ref h0, .int a0, .int a1])).length) Slot.unset).toArray = ls at hl ⊢
  have hl : lv_has ls 4 [(0, .ref h0), (1, .int a0), (2, .int a1)] := hl
  dsimp only [mX5_kernel_n] at h
  refine lv_aload_n hx hb dX5_kernel_0 rfl (lv_at hl 0 rfl) ?_
  refine lv_iload_n hx hb dX5_kernel_1 rfl (lv_at hl 1 rfl) ?_
  have hPc := hP.sub (ws' := [(h0, .inr (4, [.ref h0_held, .int t_size, .ref h0_survey])), (h0_held, .inl (k_t_held, 24, .inr (.inr (.inr (.inr t_held)))))]) [0, 1] rfl
  have hKc := hK.sub (tys' := [(k_t_held, .object "PointRings$Curve")]) [0] rfl
  refine va_csq (W.runV (As := [.int a0]) (rest := []) ⟨hx, hb, hml, hown, hts⟩ (ctX5_madeByKernel_n l N dC dI  h0 h0_held h0_survey k_t_held t_size t_held a0 none hk1 hk0) (cwV 1 hts gX5_kernel_n_X5_madeByKernel_n rfl rfl rfl (by decide +kernel) ⟨Nat.le_of_ble_eq_true rfl, Nat.le_of_ble_eq_true rfl⟩) ⟨fun a U g mk q => by obtain ⟨q0, qP, qK, qN⟩ := q; exact ⟨q0, qP, va_K.moved (u := U) (U := U.calling g mk a) (Vm.Alike.refl U.vm) qK, nw_same (u := U) (U := U.calling g mk a) rfl qN⟩, va_recv hKc hPc (ci := 4) (q0 := 0) rfl rfl, fun U hU hW => ⟨rfl, by rw [hU]; exact hPc, va_K.moved hW.alike hKc, nw_warm hW hN⟩⟩ rfl rfl hl.1 rfl (lv_room (Nat.le_of_ble_eq_true rfl)) dX5_kernel_2 ⟨Nat.le_of_ble_eq_true rfl, Nat.le_of_ble_eq_true rfl⟩) (fun q9 eq9 => ?_)
  subst q9
  refine lv_astore_nN (lv' := [(3, .null), (0, .ref h0), (1, .int a0), (2, .int a1)]) hx hb dX5_kernel_5 rfl hl (by decide) rfl (fun ls hl => ?_)
  refine lv_aload_nN hx hb dX5_kernel_6 rfl (lv_at hl 0 rfl) ?_
  refine lv_ifnonnullN hx hb dX5_kernel_7 ?_
  refine lv_bipush (v := (-2)) hx hb dX5_kernel_10 (by decide) ?_
  have hv : (-2) = rr := Option.some.inj h
  exact W.iret (v := (-2)) hx hb hr (fun t ht hW => ⟨_, rfl, hv, ht⟩) (fun q hq => absurd hq List.not_mem_nil) dX5_kernel_12
def wsX5_primeOrder_n : List Cond := .code yX5_primeOrder cX5_primeOrder 4 (some .int) :: (([] : List Cond))
def mX5_primeOrder_n (N : Nat) (a1 : Int32) : Option (Int32) := some 0
abbrev rmX5_primeOrder_n : Room := { frames := 0, cells := 0, slots := 0, locals := 0 }
set_option maxHeartbeats 4000000 in
set_option maxRecDepth 100000 in
theorem ctX5_primeOrder_n (l : Launch) (N : Nat) (dC : Nat → ClassId) (dI : Nat → Nat → Nat) (h0 : Nat) (h0_held : Nat) (h0_survey : Nat) (t_size : Int32) (a1 : Int32) (rr : Int32) (h : mX5_primeOrder_n N a1 = some rr) : Met l yX5_primeOrder wsX5_primeOrder_n rmX5_primeOrder_n (va_Pc [.ref h0, .null, .int a1] (fun U => va_P (dC, dI) vwCl [(h0, .inr (4, [.ref h0_held, .int t_size, .ref h0_survey]))] U.heap ∧ va_K (dC, dI) vwCl [] U ∧ nw_all U)) (vp_Si (fun r => r = rr)) 0 0 (fun _ => False) := by
  refine Met.ofW (cc := cX5_primeOrder) (maxL := 4) (ret := (some .int)) (by decide) rfl ?_
  intro p e s m args below meth c s₁ B hml hv
  obtain ⟨rfl, hP, hK, hN⟩ := hv
  have hx := B.exec
  have hb := B.bytes
  have hr := B.returns
  have hts := atoms_spec (ws := wsX5_primeOrder_n) B.pre
  have hown : s.vm.findClass RX5 = some m.cls := findClass_of_methodNamed B.named
  have hlocks := B.notSynchronized
  have hl := lv_entry ([.ref h0, .null, .int a1]) (n := 4) (Nat.le_of_ble_eq_true rfl)
  rw [lg_entry_eq]
  generalize (lg_sl ([.ref h0, .null, .int a1]) ++ List.replicate (4 - (lg_sl ([.ref h0, .null, .int a1])).length) Slot.unset).toArray = ls at hl ⊢
  have hl : lv_has ls 4 [(0, .ref h0), (1, .null), (2, .int a1)] := hl
  dsimp only [mX5_primeOrder_n] at h
  refine lv_aload_nN hx hb dX5_primeOrder_0 rfl (lv_at hl 1 rfl) ?_
  refine lv_ifnullN (tgt := 12) hx hb dX5_primeOrder_1 (by decide) ?_
  refine lv_iconst (v := 0) hx hb dX5_primeOrder_12 (by decide) ?_
  have hv : 0 = rr := Option.some.inj h
  exact W.iret (v := 0) hx hb hr (fun t ht hW => ⟨_, rfl, hv, ht⟩) (fun q hq => absurd hq List.not_mem_nil) dX5_primeOrder_13
def wsX5_sign_n : List Cond := .code yX5_sign cX5_sign 12 (some .int) :: (([] : List Cond) ++ ((wsV RX5 47 RX5 yX5_at wsX5_at) ++ ((wsV RX5 208 RX5 yX5_primeOrder wsX5_primeOrder_n))))
set_option maxRecDepth 20000 in
theorem gX5_sign_n_X5_at : GoodIn wsX5_sign_n (wsV RX5 47 RX5 yX5_at wsX5_at) := goodIn_sub (fun w h => List.mem_cons_of_mem _ (List.mem_append_right _ (List.mem_append_left _ h))) (by decide +kernel)
set_option maxRecDepth 20000 in
theorem gX5_sign_n_X5_primeOrder_n : GoodIn wsX5_sign_n (wsV RX5 208 RX5 yX5_primeOrder wsX5_primeOrder_n) := goodIn_sub (fun w h => List.mem_cons_of_mem _ (List.mem_append_right _ (List.mem_append_right _ (h)))) (by decide +kernel)
def mX5_sign_n (N : Nat) (a0 : Int32) (a1 : Int32) (a2 : Int32) (a3 : Int32) (a4 : Int32) (a5 : Int32) : Option (Int32) := some (-2)
abbrev rmX5_sign_n : Room := { frames := 1, cells := 0, slots := 0, locals := 23 }
set_option maxHeartbeats 4000000 in
set_option maxRecDepth 100000 in
theorem ctX5_sign_n (l : Launch) (N : Nat) (dC : Nat → ClassId) (dI : Nat → Nat → Nat) (h0 : Nat) (h0_held : Nat) (h0_survey : Nat) (k_t_held : ClassId) (t_size : Int32) (t_held : Nat → Option Nat) (a0 : Int32) (a1 : Int32) (a2 : Int32) (a3 : Int32) (a4 : Int32) (a5 : Int32) (rr : Int32) (h : mX5_sign_n N a0 a1 a2 a3 a4 a5 = some rr) (hk0 : mX5_at N t_size t_held a0 = some none) : Met l yX5_sign wsX5_sign_n rmX5_sign_n (va_Pc [.ref h0, .int a0, .int a1, .int a2, .int a3, .int a4, .int a5] (fun U => va_P (dC, dI) vwCl [(h0, .inr (4, [.ref h0_held, .int t_size, .ref h0_survey])), (h0_held, .inl (k_t_held, 24, .inr (.inr (.inr (.inr t_held)))))] U.heap ∧ va_K (dC, dI) vwCl [(k_t_held, .object "PointRings$Curve")] U ∧ nw_all U)) (vp_Si (fun r => r = rr)) 0 0 (fun _ => False) := by
  refine Met.ofW (cc := cX5_sign) (maxL := 12) (ret := (some .int)) (by decide) rfl ?_
  intro p e s m args below meth c s₁ B hml hv
  obtain ⟨rfl, hP, hK, hN⟩ := hv
  have hx := B.exec
  have hb := B.bytes
  have hr := B.returns
  have hts := atoms_spec (ws := wsX5_sign_n) B.pre
  have hown : s.vm.findClass RX5 = some m.cls := findClass_of_methodNamed B.named
  have hlocks := B.notSynchronized
  have hl := lv_entry ([.ref h0, .int a0, .int a1, .int a2, .int a3, .int a4, .int a5]) (n := 12) (Nat.le_of_ble_eq_true rfl)
  rw [lg_entry_eq]
  generalize (lg_sl ([.ref h0, .int a0, .int a1, .int a2, .int a3, .int a4, .int a5]) ++ List.replicate (12 - (lg_sl ([.ref h0, .int a0, .int a1, .int a2, .int a3, .int a4, .int a5])).length) Slot.unset).toArray = ls at hl ⊢
  have hl : lv_has ls 12 [(0, .ref h0), (1, .int a0), (2, .int a1), (3, .int a2), (4, .int a3), (5, .int a4), (6, .int a5)] := hl
  dsimp only [mX5_sign_n] at h
  refine lv_aload_n hx hb dX5_sign_0 rfl (lv_at hl 0 rfl) ?_
  refine lv_iload_n hx hb dX5_sign_1 rfl (lv_at hl 1 rfl) ?_
  have hPc := hP.sub (ws' := [(h0, .inr (4, [.ref h0_held, .int t_size, .ref h0_survey])), (h0_held, .inl (k_t_held, 24, .inr (.inr (.inr (.inr t_held)))))]) [0, 1] rfl
  have hKc := hK.sub (tys' := [(k_t_held, .object "PointRings$Curve")]) [0] rfl
  refine va_csq (W.runV (As := [.int a0]) (rest := []) ⟨hx, hb, hml, hown, hts⟩ (ctX5_at l N dC dI  h0 h0_held h0_survey k_t_held t_size t_held a0 none hk0) (cwV 1 hts gX5_sign_n_X5_at rfl rfl rfl (by decide +kernel) ⟨Nat.le_of_ble_eq_true rfl, Nat.le_of_ble_eq_true rfl⟩) ⟨fun a U g mk q => by obtain ⟨q0, qP, qK, qN⟩ := q; exact ⟨q0, qP, va_K.moved (u := U) (U := U.calling g mk a) (Vm.Alike.refl U.vm) qK, nw_same (u := U) (U := U.calling g mk a) rfl qN⟩, va_recv hKc hPc (ci := 4) (q0 := 0) rfl rfl, fun U hU hW => ⟨rfl, by rw [hU]; exact hPc, va_K.moved hW.alike hKc, nw_warm hW hN⟩⟩ rfl rfl hl.1 rfl (lv_room (Nat.le_of_ble_eq_true rfl)) dX5_sign_2 ⟨Nat.le_of_ble_eq_true rfl, Nat.le_of_ble_eq_true rfl⟩) (fun q9 eq9 => ?_)
  subst q9
  refine lv_astoreN (lv' := [(7, .null), (0, .ref h0), (1, .int a0), (2, .int a1), (3, .int a2), (4, .int a3), (5, .int a4), (6, .int a5)]) hx hb dX5_sign_5 hl (by decide) rfl (fun ls hl => ?_)
  refine lv_aload_n hx hb dX5_sign_7 rfl (lv_at hl 1 rfl) ?_
  refine lv_aloadN hx hb dX5_sign_8 (lv_at hl 0 rfl) ?_
  refine lv_iload_n hx hb dX5_sign_10 rfl (lv_at hl 3 rfl) ?_
  have hPc := hP.sub (ws' := [(h0, .inr (4, [.ref h0_held, .int t_size, .ref h0_survey]))]) [0] rfl
  have hKc := hK.sub (tys' := []) [] rfl
  refine vp_callSi (W.runV (As := [.null, .int a1]) (rest := []) ⟨hx, hb, hml, hown, hts⟩ (ctX5_primeOrder_n l N dC dI  h0 h0_held h0_survey t_size a1 0 rfl) (cwV 2 hts gX5_sign_n_X5_primeOrder_n rfl rfl rfl (by decide +kernel) ⟨Nat.le_of_ble_eq_true rfl, Nat.le_of_ble_eq_true rfl⟩) ⟨fun a U g mk q => by obtain ⟨q0, qP, qK, qN⟩ := q; exact ⟨q0, qP, va_K.moved (u := U) (U := U.calling g mk a) (Vm.Alike.refl U.vm) qK, nw_same (u := U) (U := U.calling g mk a) rfl qN⟩, va_recv hKc hPc (ci := 4) (q0 := 0) rfl rfl, fun U hU hW => ⟨rfl, by rw [hU]; exact hPc, va_K.moved hW.alike hKc, nw_warm hW hN⟩⟩ rfl rfl hl.1 rfl (lv_room (Nat.le_of_ble_eq_true rfl)) dX5_sign_11 ⟨Nat.le_of_ble_eq_true rfl, Nat.le_of_ble_eq_true rfl⟩) (fun q9 eq9 => ?_)
  subst q9
  refine lv_istore (lv' := [(8, .int 0), (7, .null), (0, .ref h0), (1, .int a0), (2, .int a1), (3, .int a2), (4, .int a3), (5, .int a4), (6, .int a5)]) hx hb dX5_sign_14 hl (by decide) rfl (fun ls hl => ?_)
  refine lv_iload hx hb dX5_sign_16 (lv_at hl 0 rfl) ?_
  refine lv_if_eq (tgt := 61) hx hb dX5_sign_18 (by decide) (fun c3 => ?_) (fun c3 => ?_)
  · refine lv_bipush (v := (-2)) hx hb dX5_sign_61 (by decide) ?_
    have hv : (-2) = rr := Option.some.inj h
    exact W.iret (v := (-2)) hx hb hr (fun t ht hW => ⟨_, rfl, hv, ht⟩) (fun q hq => absurd hq List.not_mem_nil) dX5_sign_63
  · exact absurd (by decide) c3
def wsX5_good_n : List Cond := .code yX5_good cX5_good 11 (some .int) :: (([] : List Cond) ++ ((wsV RX5 47 RX5 yX5_at wsX5_at) ++ ((wsV RX5 208 RX5 yX5_primeOrder wsX5_primeOrder_n))))
set_option maxRecDepth 20000 in
theorem gX5_good_n_X5_at : GoodIn wsX5_good_n (wsV RX5 47 RX5 yX5_at wsX5_at) := goodIn_sub (fun w h => List.mem_cons_of_mem _ (List.mem_append_right _ (List.mem_append_left _ h))) (by decide +kernel)
set_option maxRecDepth 20000 in
theorem gX5_good_n_X5_primeOrder_n : GoodIn wsX5_good_n (wsV RX5 208 RX5 yX5_primeOrder wsX5_primeOrder_n) := goodIn_sub (fun w h => List.mem_cons_of_mem _ (List.mem_append_right _ (List.mem_append_right _ (h)))) (by decide +kernel)
def mX5_good_n (N : Nat) (a0 : Int32) (a1 : Int32) (a2 : Int32) (a3 : Int32) (a4 : Int32) (a5 : Int32) : Option (Int32) := some (-2)
abbrev rmX5_good_n : Room := { frames := 1, cells := 0, slots := 0, locals := 23 }
set_option maxHeartbeats 4000000 in
set_option maxRecDepth 100000 in
theorem ctX5_good_n (l : Launch) (N : Nat) (dC : Nat → ClassId) (dI : Nat → Nat → Nat) (h0 : Nat) (h0_held : Nat) (h0_survey : Nat) (k_t_held : ClassId) (t_size : Int32) (t_held : Nat → Option Nat) (a0 : Int32) (a1 : Int32) (a2 : Int32) (a3 : Int32) (a4 : Int32) (a5 : Int32) (rr : Int32) (h : mX5_good_n N a0 a1 a2 a3 a4 a5 = some rr) (hk0 : mX5_at N t_size t_held a0 = some none) : Met l yX5_good wsX5_good_n rmX5_good_n (va_Pc [.ref h0, .int a0, .int a1, .int a2, .int a3, .int a4, .int a5] (fun U => va_P (dC, dI) vwCl [(h0, .inr (4, [.ref h0_held, .int t_size, .ref h0_survey])), (h0_held, .inl (k_t_held, 24, .inr (.inr (.inr (.inr t_held)))))] U.heap ∧ va_K (dC, dI) vwCl [(k_t_held, .object "PointRings$Curve")] U ∧ nw_all U)) (vp_Si (fun r => r = rr)) 0 0 (fun _ => False) := by
  refine Met.ofW (cc := cX5_good) (maxL := 11) (ret := (some .int)) (by decide) rfl ?_
  intro p e s m args below meth c s₁ B hml hv
  obtain ⟨rfl, hP, hK, hN⟩ := hv
  have hx := B.exec
  have hb := B.bytes
  have hr := B.returns
  have hts := atoms_spec (ws := wsX5_good_n) B.pre
  have hown : s.vm.findClass RX5 = some m.cls := findClass_of_methodNamed B.named
  have hlocks := B.notSynchronized
  have hl := lv_entry ([.ref h0, .int a0, .int a1, .int a2, .int a3, .int a4, .int a5]) (n := 11) (Nat.le_of_ble_eq_true rfl)
  rw [lg_entry_eq]
  generalize (lg_sl ([.ref h0, .int a0, .int a1, .int a2, .int a3, .int a4, .int a5]) ++ List.replicate (11 - (lg_sl ([.ref h0, .int a0, .int a1, .int a2, .int a3, .int a4, .int a5])).length) Slot.unset).toArray = ls at hl ⊢
  have hl : lv_has ls 11 [(0, .ref h0), (1, .int a0), (2, .int a1), (3, .int a2), (4, .int a3), (5, .int a4), (6, .int a5)] := hl
  dsimp only [mX5_good_n] at h
  refine lv_aload_n hx hb dX5_good_0 rfl (lv_at hl 0 rfl) ?_
  refine lv_iload_n hx hb dX5_good_1 rfl (lv_at hl 1 rfl) ?_
  have hPc := hP.sub (ws' := [(h0, .inr (4, [.ref h0_held, .int t_size, .ref h0_survey])), (h0_held, .inl (k_t_held, 24, .inr (.inr (.inr (.inr t_held)))))]) [0, 1] rfl
  have hKc := hK.sub (tys' := [(k_t_held, .object "PointRings$Curve")]) [0] rfl
  refine va_csq (W.runV (As := [.int a0]) (rest := []) ⟨hx, hb, hml, hown, hts⟩ (ctX5_at l N dC dI  h0 h0_held h0_survey k_t_held t_size t_held a0 none hk0) (cwV 1 hts gX5_good_n_X5_at rfl rfl rfl (by decide +kernel) ⟨Nat.le_of_ble_eq_true rfl, Nat.le_of_ble_eq_true rfl⟩) ⟨fun a U g mk q => by obtain ⟨q0, qP, qK, qN⟩ := q; exact ⟨q0, qP, va_K.moved (u := U) (U := U.calling g mk a) (Vm.Alike.refl U.vm) qK, nw_same (u := U) (U := U.calling g mk a) rfl qN⟩, va_recv hKc hPc (ci := 4) (q0 := 0) rfl rfl, fun U hU hW => ⟨rfl, by rw [hU]; exact hPc, va_K.moved hW.alike hKc, nw_warm hW hN⟩⟩ rfl rfl hl.1 rfl (lv_room (Nat.le_of_ble_eq_true rfl)) dX5_good_2 ⟨Nat.le_of_ble_eq_true rfl, Nat.le_of_ble_eq_true rfl⟩) (fun q9 eq9 => ?_)
  subst q9
  refine lv_astoreN (lv' := [(7, .null), (0, .ref h0), (1, .int a0), (2, .int a1), (3, .int a2), (4, .int a3), (5, .int a4), (6, .int a5)]) hx hb dX5_good_5 hl (by decide) rfl (fun ls hl => ?_)
  refine lv_aload_n hx hb dX5_good_7 rfl (lv_at hl 1 rfl) ?_
  refine lv_aloadN hx hb dX5_good_8 (lv_at hl 0 rfl) ?_
  refine lv_iload_n hx hb dX5_good_10 rfl (lv_at hl 3 rfl) ?_
  have hPc := hP.sub (ws' := [(h0, .inr (4, [.ref h0_held, .int t_size, .ref h0_survey]))]) [0] rfl
  have hKc := hK.sub (tys' := []) [] rfl
  refine vp_callSi (W.runV (As := [.null, .int a1]) (rest := []) ⟨hx, hb, hml, hown, hts⟩ (ctX5_primeOrder_n l N dC dI  h0 h0_held h0_survey t_size a1 0 rfl) (cwV 2 hts gX5_good_n_X5_primeOrder_n rfl rfl rfl (by decide +kernel) ⟨Nat.le_of_ble_eq_true rfl, Nat.le_of_ble_eq_true rfl⟩) ⟨fun a U g mk q => by obtain ⟨q0, qP, qK, qN⟩ := q; exact ⟨q0, qP, va_K.moved (u := U) (U := U.calling g mk a) (Vm.Alike.refl U.vm) qK, nw_same (u := U) (U := U.calling g mk a) rfl qN⟩, va_recv hKc hPc (ci := 4) (q0 := 0) rfl rfl, fun U hU hW => ⟨rfl, by rw [hU]; exact hPc, va_K.moved hW.alike hKc, nw_warm hW hN⟩⟩ rfl rfl hl.1 rfl (lv_room (Nat.le_of_ble_eq_true rfl)) dX5_good_11 ⟨Nat.le_of_ble_eq_true rfl, Nat.le_of_ble_eq_true rfl⟩) (fun q9 eq9 => ?_)
  subst q9
  refine lv_istore (lv' := [(8, .int 0), (7, .null), (0, .ref h0), (1, .int a0), (2, .int a1), (3, .int a2), (4, .int a3), (5, .int a4), (6, .int a5)]) hx hb dX5_good_14 hl (by decide) rfl (fun ls hl => ?_)
  refine lv_iload hx hb dX5_good_16 (lv_at hl 0 rfl) ?_
  refine lv_if_eq (tgt := 35) hx hb dX5_good_18 (by decide) (fun c3 => ?_) (fun c3 => ?_)
  · refine lv_bipush (v := (-2)) hx hb dX5_good_35 (by decide) ?_
    have hv : (-2) = rr := Option.some.inj h
    exact W.iret (v := (-2)) hx hb hr (fun t ht hW => ⟨_, rfl, hv, ht⟩) (fun q hq => absurd hq List.not_mem_nil) dX5_good_37
  · exact absurd (by decide) c3
