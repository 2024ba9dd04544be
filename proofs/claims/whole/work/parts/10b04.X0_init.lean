def mX0_init (N : Nat) (a0 : Int32) (a1 : Int32) (a2 : Int32) : Option (Int32 × Int32 × Int32 × Int32 × Int32) := some (a0, a1, a2, (-1), (-1))
abbrev rmX0_init : Room := { frames := 1, cells := 0, slots := 0, locals := 12 }
set_option maxHeartbeats 4000000 in
set_option maxRecDepth 100000 in
theorem ctX0_init (l : Launch) (N : Nat) (dC : Nat → ClassId) (dI : Nat → Nat → Nat) (sz : Nat) (h0 : Nat) (t_p : Int32) (t_a : Int32) (t_b : Int32) (t_from : Int32) (t_kernelPoint : Int32) (t_kernelOrder : Int32) (t_points : Int32) (t_inner : Int32) (t_outer : Int32) (t_makersFound : Int32) (t_first : Int32) (t_second : Int32) (a0 : Int32) (a1 : Int32) (a2 : Int32) (rr : Int32 × Int32 × Int32 × Int32 × Int32) (h : mX0_init N a0 a1 a2 = some rr) : Met l yX0_init wsX0_init rmX0_init (va_Pc [.ref h0, .int a0, .int a1, .int a2] (fun U => U.heap.size = sz ∧ va_P (dC, dI) vwCl [(h0, .inr (0, [.int t_p, .int t_a, .int t_b, .int t_from, .int t_kernelPoint, .int t_kernelOrder, .int t_points, .int t_inner, .int t_outer, .int t_makersFound, .int t_first, .int t_second]))] U.heap ∧ va_K (dC, dI) vwCl [] U ∧ nw_all U ∧ va_D (fun _ => True) [(h0, .inr (0, [.int t_p, .int t_a, .int t_b, .int t_from, .int t_kernelPoint, .int t_kernelOrder, .int t_points, .int t_inner, .int t_outer, .int t_makersFound, .int t_first, .int t_second]))])) (va_Qv (fun (u : Int32 × Int32 × Int32 × Int32 × Int32) => u = rr) (fun (u : Int32 × Int32 × Int32 × Int32 × Int32) t => match u with | (u0, u1, u2, u3, u4) => va_P (dC, dI) vwCl [(h0, .inr (0, [.int u0, .int u1, .int u2, .int t_from, .int t_kernelPoint, .int t_kernelOrder, .int t_points, .int t_inner, .int t_outer, .int t_makersFound, .int u3, .int u4]))] t.heap ∧ va_K (dC, dI) vwCl [] t ∧ va_D (va_A [(h0, .inr (0, [.int t_p, .int t_a, .int t_b, .int t_from, .int t_kernelPoint, .int t_kernelOrder, .int t_points, .int t_inner, .int t_outer, .int t_makersFound, .int t_first, .int t_second]))] sz) [(h0, .inr (0, [.int u0, .int u1, .int u2, .int t_from, .int t_kernelPoint, .int t_kernelOrder, .int t_points, .int t_inner, .int t_outer, .int t_makersFound, .int u3, .int u4]))]) (va_A [(h0, .inr (0, [.int t_p, .int t_a, .int t_b, .int t_from, .int t_kernelPoint, .int t_kernelOrder, .int t_points, .int t_inner, .int t_outer, .int t_makersFound, .int t_first, .int t_second]))] sz)) 0 0 (va_A [(h0, .inr (0, [.int t_p, .int t_a, .int t_b, .int t_from, .int t_kernelPoint, .int t_kernelOrder, .int t_points, .int t_inner, .int t_outer, .int t_makersFound, .int t_first, .int t_second]))] sz) := by
  refine Met.ofW (cc := cX0_init) (maxL := 4) (ret := none) (by decide) rfl ?_
  intro p e s m args below meth c s₁ B hml hv
  obtain ⟨rfl, hsz, hP, hK, hN, hD0⟩ := hv
  have hx := B.exec
  have hb := B.bytes
  have hr := B.returns
  have hts := atoms_spec (ws := wsX0_init) B.pre
  have hown : s.vm.findClass RX0 = some m.cls := findClass_of_methodNamed B.named
  have hlocks := B.notSynchronized
  have hin : meth.name = "<init>" := (name_of_methodNamed B.named B.method).1
  subst hsz
  have hD := hD0.self (sz := s.heap.size)
  generalize hAe : va_A [(h0, .inr (0, [.int t_p, .int t_a, .int t_b, .int t_from, .int t_kernelPoint, .int t_kernelOrder, .int t_points, .int t_inner, .int t_outer, .int t_makersFound, .int t_first, .int t_second]))] s.heap.size = A at hD ⊢
  have hA0 : ∀ q : Nat, s.heap.size ≤ q → A q := fun q h => by rw [← hAe]; exact Or.inr h
  have hS : va_S A s.heap s.heap [] := va_S.rf
  have hP : va_P (dC, dI) vwCl [(h0, .inr (0, [.int t_p, .int t_a, .int t_b, .int t_from, .int t_kernelPoint, .int t_kernelOrder, .int t_points, .int t_inner, .int t_outer, .int t_makersFound, .int t_first, .int t_second]))] s.heap := hP
  have hl := lv_entry ([.ref h0, .int a0, .int a1, .int a2]) (n := 4) (Nat.le_of_ble_eq_true rfl)
  rw [lg_entry_eq]
  generalize (lg_sl ([.ref h0, .int a0, .int a1, .int a2]) ++ List.replicate (4 - (lg_sl ([.ref h0, .int a0, .int a1, .int a2])).length) Slot.unset).toArray = ls at hl ⊢
  have hl : lv_has ls 4 [(0, .ref h0), (1, .int a0), (2, .int a1), (3, .int a2)] := hl
  dsimp only [mX0_init] at h
  refine lv_aload_n hx hb dX0_init_0 rfl (lv_at hl 0 rfl) ?_
  refine W.objInit hx hb hown (hts (.methodLink RX0 3 objectInit) (by decide +kernel)) (hts (.instanceMethod objectInit) (by decide +kernel)) (hts (.code objectInit ⟨#[0xb1]⟩ 1 none) (by decide +kernel)) rfl (by rw [hml]; exact hl.1) rfl dX0_init_1 (Nat.le_of_ble_eq_true rfl) (Nat.le_of_ble_eq_true rfl) ?_
  refine W.eq (g2 := F0 m 4 ls []) rfl ?_
  refine lv_aload_n hx hb dX0_init_4 rfl (lv_at hl 0 rfl) ?_
  refine lv_iload_n hx hb dX0_init_5 rfl (lv_at hl 1 rfl) ?_
  refine va_putF (D := (dC, dI)) (ci := 0) (v := .int a0) (ty := .int) (C := RX0) (T := TX0) (N := 12) hx hb hts (by decide +kernel) tyX0 tyX0_ok nmX0 hown hK hP hD hS 0 rfl rfl 0 (by decide) (hts (.fieldLink RX0 9 "PointRings$Curve" "p" "I") (by decide +kernel)) (fun _ h9 => h9) rfl hin rfl (by decide +kernel) rfl rfl (Nat.le_of_ble_eq_true rfl) dX0_init_6 (fun H locs hP hD hS => ?_)
  have hP : va_P (dC, dI) vwCl [(h0, .inr (0, [.int a0, .int t_a, .int t_b, .int t_from, .int t_kernelPoint, .int t_kernelOrder, .int t_points, .int t_inner, .int t_outer, .int t_makersFound, .int t_first, .int t_second]))] H := hP
  have hD : va_D A [(h0, .inr (0, [.int a0, .int t_a, .int t_b, .int t_from, .int t_kernelPoint, .int t_kernelOrder, .int t_points, .int t_inner, .int t_outer, .int t_makersFound, .int t_first, .int t_second]))] := hD
  refine lv_aload_n hx hb dX0_init_9 rfl (lv_at hl 0 rfl) ?_
  refine lv_iload_n hx hb dX0_init_10 rfl (lv_at hl 2 rfl) ?_
  refine va_putF (D := (dC, dI)) (ci := 0) (v := .int a1) (ty := .int) (C := RX0) (T := TX0) (N := 12) hx hb hts (by decide +kernel) tyX0 tyX0_ok nmX0 hown hK hP hD hS 0 rfl rfl 1 (by decide) (hts (.fieldLink RX0 15 "PointRings$Curve" "a" "I") (by decide +kernel)) (fun _ h9 => h9) rfl hin rfl (by decide +kernel) rfl rfl (Nat.le_of_ble_eq_true rfl) dX0_init_11 (fun H locs hP hD hS => ?_)
  have hP : va_P (dC, dI) vwCl [(h0, .inr (0, [.int a0, .int a1, .int t_b, .int t_from, .int t_kernelPoint, .int t_kernelOrder, .int t_points, .int t_inner, .int t_outer, .int t_makersFound, .int t_first, .int t_second]))] H := hP
  have hD : va_D A [(h0, .inr (0, [.int a0, .int a1, .int t_b, .int t_from, .int t_kernelPoint, .int t_kernelOrder, .int t_points, .int t_inner, .int t_outer, .int t_makersFound, .int t_first, .int t_second]))] := hD
  refine lv_aload_n hx hb dX0_init_14 rfl (lv_at hl 0 rfl) ?_
  refine lv_iload_n hx hb dX0_init_15 rfl (lv_at hl 3 rfl) ?_
  refine va_putF (D := (dC, dI)) (ci := 0) (v := .int a2) (ty := .int) (C := RX0) (T := TX0) (N := 12) hx hb hts (by decide +kernel) tyX0 tyX0_ok nmX0 hown hK hP hD hS 0 rfl rfl 2 (by decide) (hts (.fieldLink RX0 18 "PointRings$Curve" "b" "I") (by decide +kernel)) (fun _ h9 => h9) rfl hin rfl (by decide +kernel) rfl rfl (Nat.le_of_ble_eq_true rfl) dX0_init_16 (fun H locs hP hD hS => ?_)
  have hP : va_P (dC, dI) vwCl [(h0, .inr (0, [.int a0, .int a1, .int a2, .int t_from, .int t_kernelPoint, .int t_kernelOrder, .int t_points, .int t_inner, .int t_outer, .int t_makersFound, .int t_first, .int t_second]))] H := hP
  have hD : va_D A [(h0, .inr (0, [.int a0, .int a1, .int a2, .int t_from, .int t_kernelPoint, .int t_kernelOrder, .int t_points, .int t_inner, .int t_outer, .int t_makersFound, .int t_first, .int t_second]))] := hD
  refine lv_aload_n hx hb dX0_init_19 rfl (lv_at hl 0 rfl) ?_
  refine lv_iconst (v := (-1)) hx hb dX0_init_20 (by decide) ?_
  refine va_put (D := (dC, dI)) (ci := 0) (v := .int (-1)) (ty := .int) (C := RX0) (T := TX0) (N := 12) hx hb hts (by decide +kernel) tyX0 tyX0_ok nmX0 hown hK hP hD hS 0 rfl rfl 10 (by decide) (hts (.fieldLink RX0 21 "PointRings$Curve" "first" "I") (by decide +kernel)) (fun _ h9 => h9) rfl (by decide +kernel) rfl rfl (Nat.le_of_ble_eq_true rfl) dX0_init_21 (fun H locs hP hD hS => ?_)
  have hP : va_P (dC, dI) vwCl [(h0, .inr (0, [.int a0, .int a1, .int a2, .int t_from, .int t_kernelPoint, .int t_kernelOrder, .int t_points, .int t_inner, .int t_outer, .int t_makersFound, .int (-1), .int t_second]))] H := hP
  have hD : va_D A [(h0, .inr (0, [.int a0, .int a1, .int a2, .int t_from, .int t_kernelPoint, .int t_kernelOrder, .int t_points, .int t_inner, .int t_outer, .int t_makersFound, .int (-1), .int t_second]))] := hD
  refine lv_aload_n hx hb dX0_init_24 rfl (lv_at hl 0 rfl) ?_
  refine lv_iconst (v := (-1)) hx hb dX0_init_25 (by decide) ?_
  refine va_put (D := (dC, dI)) (ci := 0) (v := .int (-1)) (ty := .int) (C := RX0) (T := TX0) (N := 12) hx hb hts (by decide +kernel) tyX0 tyX0_ok nmX0 hown hK hP hD hS 0 rfl rfl 11 (by decide) (hts (.fieldLink RX0 24 "PointRings$Curve" "second" "I") (by decide +kernel)) (fun _ h9 => h9) rfl (by decide +kernel) rfl rfl (Nat.le_of_ble_eq_true rfl) dX0_init_26 (fun H locs hP hD hS => ?_)
  have hP : va_P (dC, dI) vwCl [(h0, .inr (0, [.int a0, .int a1, .int a2, .int t_from, .int t_kernelPoint, .int t_kernelOrder, .int t_points, .int t_inner, .int t_outer, .int t_makersFound, .int (-1), .int (-1)]))] H := hP
  have hD : va_D A [(h0, .inr (0, [.int a0, .int a1, .int a2, .int t_from, .int t_kernelPoint, .int t_kernelOrder, .int t_points, .int t_inner, .int t_outer, .int t_makersFound, .int (-1), .int (-1)]))] := hD
  have hv : (a0, a1, a2, (-1), (-1)) = rr := Option.some.inj h
  have hP9 := hP.sub (ws' := [(h0, .inr (0, [.int a0, .int a1, .int a2, .int t_from, .int t_kernelPoint, .int t_kernelOrder, .int t_points, .int t_inner, .int t_outer, .int t_makersFound, .int (-1), .int (-1)]))]) [0] rfl
  have hD9 := hD.sub (ws' := [(h0, .inr (0, [.int a0, .int a1, .int a2, .int t_from, .int t_kernelPoint, .int t_kernelOrder, .int t_points, .int t_inner, .int t_outer, .int t_makersFound, .int (-1), .int (-1)]))]) [0] (by decide) rfl
  have hK9 := hK.sub (tys' := []) [] rfl
  exact W.vret hx hb hr (fun t ht hW => ⟨⟨(a0, a1, a2, (-1), (-1)), rfl, hv, by rw [ht]; exact hP9, va_K.moved hW.alike hK9, hD9⟩, hS.F ht⟩) hS.2.2 dX0_init_29
