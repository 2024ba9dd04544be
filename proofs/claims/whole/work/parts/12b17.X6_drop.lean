def mX6_drop (N : Nat) (t_curves : Int32) : Option (Int32 × Int32) := if t_curves = 0 then some ((-1), t_curves) else mi_let (t_curves - 1) (fun v2 => some (v2, v2))
abbrev rmX6_drop : Room := { frames := 0, cells := 0, slots := 0, locals := 0 }
set_option maxHeartbeats 4000000 in
set_option maxRecDepth 100000 in
theorem ctX6_drop (l : Launch) (N : Nat) (dC : Nat → ClassId) (dI : Nat → Nat → Nat) (sz : Nat) (h0 : Nat) (h0_inverses : Nat) (h0_roots : Nat) (h0_points : Nat) (h0_ahead : Nat) (h0_ps : Nat) (h0_as : Nat) (h0_bs : Nat) (h0_from : Nat) (h0_kernelPoint : Nat) (h0_kernelOrder : Nat) (h0_marked : Nat) (h0_seen : Nat) (t_p : Int32) (t_a : Int32) (t_b : Int32) (t_rooted : Int32) (t_pointMany : Int32) (t_curves : Int32) (rr : Int32 × Int32) (h : mX6_drop N t_curves = some rr) : Met l yX6_drop wsX6_drop rmX6_drop (va_Pc [.ref h0] (fun U => U.heap.size = sz ∧ va_P (dC, dI) vwCl [(h0, .inr (5, [.int t_p, .int t_a, .int t_b, .ref h0_inverses, .ref h0_roots, .int t_rooted, .ref h0_points, .int t_pointMany, .ref h0_ahead, .int t_curves, .ref h0_ps, .ref h0_as, .ref h0_bs, .ref h0_from, .ref h0_kernelPoint, .ref h0_kernelOrder, .ref h0_marked, .ref h0_seen]))] U.heap ∧ va_K (dC, dI) vwCl [] U ∧ nw_all U ∧ va_D (fun _ => True) [(h0, .inr (5, [.int t_p, .int t_a, .int t_b, .ref h0_inverses, .ref h0_roots, .int t_rooted, .ref h0_points, .int t_pointMany, .ref h0_ahead, .int t_curves, .ref h0_ps, .ref h0_as, .ref h0_bs, .ref h0_from, .ref h0_kernelPoint, .ref h0_kernelOrder, .ref h0_marked, .ref h0_seen]))])) (va_Qi (fun (r : Int32) (u : Int32) => (r, u) = rr) (fun (u : Int32) t => match u with | u0 => va_P (dC, dI) vwCl [(h0, .inr (5, [.int t_p, .int t_a, .int t_b, .ref h0_inverses, .ref h0_roots, .int t_rooted, .ref h0_points, .int t_pointMany, .ref h0_ahead, .int u0, .ref h0_ps, .ref h0_as, .ref h0_bs, .ref h0_from, .ref h0_kernelPoint, .ref h0_kernelOrder, .ref h0_marked, .ref h0_seen]))] t.heap ∧ va_K (dC, dI) vwCl [] t ∧ va_D (va_A [(h0, .inr (5, [.int t_p, .int t_a, .int t_b, .ref h0_inverses, .ref h0_roots, .int t_rooted, .ref h0_points, .int t_pointMany, .ref h0_ahead, .int t_curves, .ref h0_ps, .ref h0_as, .ref h0_bs, .ref h0_from, .ref h0_kernelPoint, .ref h0_kernelOrder, .ref h0_marked, .ref h0_seen]))] sz) [(h0, .inr (5, [.int t_p, .int t_a, .int t_b, .ref h0_inverses, .ref h0_roots, .int t_rooted, .ref h0_points, .int t_pointMany, .ref h0_ahead, .int u0, .ref h0_ps, .ref h0_as, .ref h0_bs, .ref h0_from, .ref h0_kernelPoint, .ref h0_kernelOrder, .ref h0_marked, .ref h0_seen]))]) (va_A [(h0, .inr (5, [.int t_p, .int t_a, .int t_b, .ref h0_inverses, .ref h0_roots, .int t_rooted, .ref h0_points, .int t_pointMany, .ref h0_ahead, .int t_curves, .ref h0_ps, .ref h0_as, .ref h0_bs, .ref h0_from, .ref h0_kernelPoint, .ref h0_kernelOrder, .ref h0_marked, .ref h0_seen]))] sz)) 0 0 (va_A [(h0, .inr (5, [.int t_p, .int t_a, .int t_b, .ref h0_inverses, .ref h0_roots, .int t_rooted, .ref h0_points, .int t_pointMany, .ref h0_ahead, .int t_curves, .ref h0_ps, .ref h0_as, .ref h0_bs, .ref h0_from, .ref h0_kernelPoint, .ref h0_kernelOrder, .ref h0_marked, .ref h0_seen]))] sz) := by
  refine Met.ofW (cc := cX6_drop) (maxL := 1) (ret := (some .int)) (by decide) rfl ?_
  intro p e s m args below meth c s₁ B hml hv
  obtain ⟨rfl, hsz, hP, hK, hN, hD0⟩ := hv
  have hx := B.exec
  have hb := B.bytes
  have hr := B.returns
  have hts := atoms_spec (ws := wsX6_drop) B.pre
  have hown : s.vm.findClass RX6 = some m.cls := findClass_of_methodNamed B.named
  have hlocks := B.notSynchronized
  subst hsz
  have hD := hD0.self (sz := s.heap.size)
  generalize hAe : va_A [(h0, .inr (5, [.int t_p, .int t_a, .int t_b, .ref h0_inverses, .ref h0_roots, .int t_rooted, .ref h0_points, .int t_pointMany, .ref h0_ahead, .int t_curves, .ref h0_ps, .ref h0_as, .ref h0_bs, .ref h0_from, .ref h0_kernelPoint, .ref h0_kernelOrder, .ref h0_marked, .ref h0_seen]))] s.heap.size = A at hD ⊢
  have hA0 : ∀ q : Nat, s.heap.size ≤ q → A q := fun q h => by rw [← hAe]; exact Or.inr h
  have hS : va_S A s.heap s.heap [] := va_S.rf
  have hP : va_P (dC, dI) vwCl [(h0, .inr (5, [.int t_p, .int t_a, .int t_b, .ref h0_inverses, .ref h0_roots, .int t_rooted, .ref h0_points, .int t_pointMany, .ref h0_ahead, .int t_curves, .ref h0_ps, .ref h0_as, .ref h0_bs, .ref h0_from, .ref h0_kernelPoint, .ref h0_kernelOrder, .ref h0_marked, .ref h0_seen]))] s.heap := hP
  have hl := lv_entry ([.ref h0]) (n := 1) (Nat.le_of_ble_eq_true rfl)
  rw [lg_entry_eq]
  generalize (lg_sl ([.ref h0]) ++ List.replicate (1 - (lg_sl ([.ref h0])).length) Slot.unset).toArray = ls at hl ⊢
  have hl : lv_has ls 1 [(0, .ref h0)] := hl
  dsimp only [mX6_drop] at h
  refine lv_aload_n hx hb dX6_drop_0 rfl (lv_at hl 0 rfl) ?_
  refine va_get (D := (dC, dI)) (ci := 5) (v := .int t_curves) (C := RX6) (T := TX6) (N := 18) hx hb hts (by decide +kernel) hown hK hP 0 rfl rfl 9 (by decide) (hts (.fieldLink RX6 112 "PointRingsModel" "curves" "I") (by decide +kernel)) (fun _ h9 => h9) rfl dX6_drop_1 ?_
  refine lv_if_ne (tgt := 9) hx hb dX6_drop_4 (by decide) (fun c1 => ?_) (fun c1 => ?_)
  · replace h := (if_neg c1).symm.trans h
    refine lv_aload_n hx hb dX6_drop_9 rfl (lv_at hl 0 rfl) ?_
    refine lv_dup hx hb dX6_drop_10 rfl ?_
    refine va_get (D := (dC, dI)) (ci := 5) (v := .int t_curves) (C := RX6) (T := TX6) (N := 18) hx hb hts (by decide +kernel) hown hK hP 0 rfl rfl 9 (by decide) (hts (.fieldLink RX6 112 "PointRingsModel" "curves" "I") (by decide +kernel)) (fun _ h9 => h9) rfl dX6_drop_11 ?_
    refine lv_iconst (v := 1) hx hb dX6_drop_14 (by decide) ?_
    refine lv_isub hx hb dX6_drop_15 ?_
    refine lv_topi (fun v2 ev2 => ?_)
    replace h := mi_use ev2 h
    refine va_put (D := (dC, dI)) (ci := 5) (v := .int v2) (ty := .int) (C := RX6) (T := TX6) (N := 18) hx hb hts (by decide +kernel) tyX6 tyX6_ok nmX6 hown hK hP hD hS 0 rfl rfl 9 (by decide) (hts (.fieldLink RX6 112 "PointRingsModel" "curves" "I") (by decide +kernel)) (fun _ h9 => h9) rfl (by decide +kernel) rfl rfl (Nat.le_of_ble_eq_true rfl) dX6_drop_16 (fun H locs hP hD hS => ?_)
    have hP : va_P (dC, dI) vwCl [(h0, .inr (5, [.int t_p, .int t_a, .int t_b, .ref h0_inverses, .ref h0_roots, .int t_rooted, .ref h0_points, .int t_pointMany, .ref h0_ahead, .int v2, .ref h0_ps, .ref h0_as, .ref h0_bs, .ref h0_from, .ref h0_kernelPoint, .ref h0_kernelOrder, .ref h0_marked, .ref h0_seen]))] H := hP
    have hD : va_D A [(h0, .inr (5, [.int t_p, .int t_a, .int t_b, .ref h0_inverses, .ref h0_roots, .int t_rooted, .ref h0_points, .int t_pointMany, .ref h0_ahead, .int v2, .ref h0_ps, .ref h0_as, .ref h0_bs, .ref h0_from, .ref h0_kernelPoint, .ref h0_kernelOrder, .ref h0_marked, .ref h0_seen]))] := hD
    refine lv_aload_n hx hb dX6_drop_19 rfl (lv_at hl 0 rfl) ?_
    refine va_get (D := (dC, dI)) (ci := 5) (v := .int v2) (C := RX6) (T := TX6) (N := 18) hx hb hts (by decide +kernel) hown hK hP 0 rfl rfl 9 (by decide) (hts (.fieldLink RX6 112 "PointRingsModel" "curves" "I") (by decide +kernel)) (fun _ h9 => h9) rfl dX6_drop_20 ?_
    have hv : (v2, v2) = rr := Option.some.inj h
    have hP9 := hP.sub (ws' := [(h0, .inr (5, [.int t_p, .int t_a, .int t_b, .ref h0_inverses, .ref h0_roots, .int t_rooted, .ref h0_points, .int t_pointMany, .ref h0_ahead, .int v2, .ref h0_ps, .ref h0_as, .ref h0_bs, .ref h0_from, .ref h0_kernelPoint, .ref h0_kernelOrder, .ref h0_marked, .ref h0_seen]))]) [0] rfl
    have hD9 := hD.sub (ws' := [(h0, .inr (5, [.int t_p, .int t_a, .int t_b, .ref h0_inverses, .ref h0_roots, .int t_rooted, .ref h0_points, .int t_pointMany, .ref h0_ahead, .int v2, .ref h0_ps, .ref h0_as, .ref h0_bs, .ref h0_from, .ref h0_kernelPoint, .ref h0_kernelOrder, .ref h0_marked, .ref h0_seen]))]) [0] (by decide) rfl
    have hK9 := hK.sub (tys' := []) [] rfl
    exact W.iret (v := v2) hx hb hr (fun t ht hW => ⟨⟨v2, v2, rfl, hv, by rw [ht]; exact hP9, va_K.moved hW.alike hK9, hD9⟩, hS.F ht⟩) hS.2.2 dX6_drop_23
  · replace h := (if_pos c1).symm.trans h
    refine lv_iconst (v := (-1)) hx hb dX6_drop_7 (by decide) ?_
    have hv : ((-1), t_curves) = rr := Option.some.inj h
    have hP9 := hP.sub (ws' := [(h0, .inr (5, [.int t_p, .int t_a, .int t_b, .ref h0_inverses, .ref h0_roots, .int t_rooted, .ref h0_points, .int t_pointMany, .ref h0_ahead, .int t_curves, .ref h0_ps, .ref h0_as, .ref h0_bs, .ref h0_from, .ref h0_kernelPoint, .ref h0_kernelOrder, .ref h0_marked, .ref h0_seen]))]) [0] rfl
    have hD9 := hD.sub (ws' := [(h0, .inr (5, [.int t_p, .int t_a, .int t_b, .ref h0_inverses, .ref h0_roots, .int t_rooted, .ref h0_points, .int t_pointMany, .ref h0_ahead, .int t_curves, .ref h0_ps, .ref h0_as, .ref h0_bs, .ref h0_from, .ref h0_kernelPoint, .ref h0_kernelOrder, .ref h0_marked, .ref h0_seen]))]) [0] (by decide) rfl
    have hK9 := hK.sub (tys' := []) [] rfl
    exact W.iret (v := (-1)) hx hb hr (fun t ht hW => ⟨⟨(-1), t_curves, rfl, hv, by rw [ht]; exact hP9, va_K.moved hW.alike hK9, hD9⟩, hS.F ht⟩) hS.2.2 dX6_drop_8
