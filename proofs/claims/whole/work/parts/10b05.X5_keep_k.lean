def mX5_keep_k (N : Nat) (t_size : Int32) : Option (Int32 × Int32) := if t_size < 0 ∨ 24 ≤ t_size.toNatClampNeg then none else mi_let (t_size + 1) (fun v3 => some (v3 - 1, v3))
abbrev rmX5_keep_k : Room := { frames := 0, cells := 0, slots := 0, locals := 0 }
set_option maxHeartbeats 4000000 in
set_option maxRecDepth 100000 in
theorem ctX5_keep_k (l : Launch) (N : Nat) (dC : Nat → ClassId) (dI : Nat → Nat → Nat) (sz : Nat) (h0 : Nat) (h0_held : Nat) (h1 : Nat) (h0_survey : Nat) (k_t_held : ClassId) (t_size : Int32) (t_held : Nat → Option Nat) (p0_p : Int32) (p0_a : Int32) (p0_b : Int32) (p0_from : Int32) (p0_kernelPoint : Int32) (p0_kernelOrder : Int32) (p0_points : Int32) (p0_inner : Int32) (p0_outer : Int32) (p0_makersFound : Int32) (p0_first : Int32) (p0_second : Int32) (rr : Int32 × Int32) (h : mX5_keep_k N t_size = some rr) (hk0 : t_size < 24) : Met l yX5_keep wsX5_keep rmX5_keep_k (va_Pc [.ref h0, .ref h1] (fun U => U.heap.size = sz ∧ va_P (dC, dI) vwCl [(h0, .inr (4, [.ref h0_held, .int t_size, .ref h0_survey])), (h0_held, .inl (k_t_held, 24, .inr (.inr (.inr (.inr t_held))))), (h1, .inr (0, [.int p0_p, .int p0_a, .int p0_b, .int p0_from, .int p0_kernelPoint, .int p0_kernelOrder, .int p0_points, .int p0_inner, .int p0_outer, .int p0_makersFound, .int p0_first, .int p0_second]))] U.heap ∧ va_K (dC, dI) vwCl [(k_t_held, .object "PointRings$Curve")] U ∧ nw_all U ∧ va_D (fun _ => True) [(h0, .inr (4, [.ref h0_held, .int t_size, .ref h0_survey])), (h0_held, .inl (k_t_held, 24, .inr (.inr (.inr (.inr t_held))))), (h1, .inr (0, [.int p0_p, .int p0_a, .int p0_b, .int p0_from, .int p0_kernelPoint, .int p0_kernelOrder, .int p0_points, .int p0_inner, .int p0_outer, .int p0_makersFound, .int p0_first, .int p0_second]))])) (va_Qi (fun (r : Int32) (u : Int32) => (r, u) = rr) (fun (u : Int32) t => match u with | u0 => va_P (dC, dI) vwCl [(h0, .inr (4, [.ref h0_held, .int u0, .ref h0_survey])), (h0_held, .inl (k_t_held, 24, .inr (.inr (.inr (.inr (va_up t_held t_size.toNatClampNeg (some h1))))))), (h1, .inr (0, [.int p0_p, .int p0_a, .int p0_b, .int p0_from, .int p0_kernelPoint, .int p0_kernelOrder, .int p0_points, .int p0_inner, .int p0_outer, .int p0_makersFound, .int p0_first, .int p0_second]))] t.heap ∧ va_K (dC, dI) vwCl [(k_t_held, .object "PointRings$Curve")] t ∧ va_D (va_A [(h0, .inr (4, [.ref h0_held, .int t_size, .ref h0_survey])), (h0_held, .inl (k_t_held, 24, .inr (.inr (.inr (.inr t_held))))), (h1, .inr (0, [.int p0_p, .int p0_a, .int p0_b, .int p0_from, .int p0_kernelPoint, .int p0_kernelOrder, .int p0_points, .int p0_inner, .int p0_outer, .int p0_makersFound, .int p0_first, .int p0_second]))] sz) [(h0, .inr (4, [.ref h0_held, .int u0, .ref h0_survey])), (h0_held, .inl (k_t_held, 24, .inr (.inr (.inr (.inr (va_up t_held t_size.toNatClampNeg (some h1))))))), (h1, .inr (0, [.int p0_p, .int p0_a, .int p0_b, .int p0_from, .int p0_kernelPoint, .int p0_kernelOrder, .int p0_points, .int p0_inner, .int p0_outer, .int p0_makersFound, .int p0_first, .int p0_second]))]) (va_A [(h0, .inr (4, [.ref h0_held, .int t_size, .ref h0_survey])), (h0_held, .inl (k_t_held, 24, .inr (.inr (.inr (.inr t_held))))), (h1, .inr (0, [.int p0_p, .int p0_a, .int p0_b, .int p0_from, .int p0_kernelPoint, .int p0_kernelOrder, .int p0_points, .int p0_inner, .int p0_outer, .int p0_makersFound, .int p0_first, .int p0_second]))] sz)) 0 0 (va_A [(h0, .inr (4, [.ref h0_held, .int t_size, .ref h0_survey])), (h0_held, .inl (k_t_held, 24, .inr (.inr (.inr (.inr t_held))))), (h1, .inr (0, [.int p0_p, .int p0_a, .int p0_b, .int p0_from, .int p0_kernelPoint, .int p0_kernelOrder, .int p0_points, .int p0_inner, .int p0_outer, .int p0_makersFound, .int p0_first, .int p0_second]))] sz) := by
  refine Met.ofW (cc := cX5_keep) (maxL := 2) (ret := (some .int)) (by decide) rfl ?_
  intro p e s m args below meth c s₁ B hml hv
  obtain ⟨rfl, hsz, hP, hK, hN, hD0⟩ := hv
  have hx := B.exec
  have hb := B.bytes
  have hr := B.returns
  have hts := atoms_spec (ws := wsX5_keep) B.pre
  have hown : s.vm.findClass RX5 = some m.cls := findClass_of_methodNamed B.named
  have hlocks := B.notSynchronized
  subst hsz
  have hD := hD0.self (sz := s.heap.size)
  generalize hAe : va_A [(h0, .inr (4, [.ref h0_held, .int t_size, .ref h0_survey])), (h0_held, .inl (k_t_held, 24, .inr (.inr (.inr (.inr t_held))))), (h1, .inr (0, [.int p0_p, .int p0_a, .int p0_b, .int p0_from, .int p0_kernelPoint, .int p0_kernelOrder, .int p0_points, .int p0_inner, .int p0_outer, .int p0_makersFound, .int p0_first, .int p0_second]))] s.heap.size = A at hD ⊢
  have hA0 : ∀ q : Nat, s.heap.size ≤ q → A q := fun q h => by rw [← hAe]; exact Or.inr h
  have hS : va_S A s.heap s.heap [] := va_S.rf
  have hP : va_P (dC, dI) vwCl [(h0, .inr (4, [.ref h0_held, .int t_size, .ref h0_survey])), (h0_held, .inl (k_t_held, 24, .inr (.inr (.inr (.inr t_held))))), (h1, .inr (0, [.int p0_p, .int p0_a, .int p0_b, .int p0_from, .int p0_kernelPoint, .int p0_kernelOrder, .int p0_points, .int p0_inner, .int p0_outer, .int p0_makersFound, .int p0_first, .int p0_second]))] s.heap := hP
  have hl := lv_entry ([.ref h0, .ref h1]) (n := 2) (Nat.le_of_ble_eq_true rfl)
  rw [lg_entry_eq]
  generalize (lg_sl ([.ref h0, .ref h1]) ++ List.replicate (2 - (lg_sl ([.ref h0, .ref h1])).length) Slot.unset).toArray = ls at hl ⊢
  have hl : lv_has ls 2 [(0, .ref h0), (1, .ref h1)] := hl
  dsimp only [mX5_keep_k] at h
  refine lv_aload_n hx hb dX5_keep_0 rfl (lv_at hl 0 rfl) ?_
  refine va_get (D := (dC, dI)) (ci := 4) (v := .int t_size) (C := RX5) (T := TX5) (N := 3) hx hb hts (by decide +kernel) hown hK hP 0 rfl rfl 1 (by decide) (hts (.fieldLink RX5 15 "PointRings" "size" "I") (by decide +kernel)) (fun _ h9 => h9) rfl dX5_keep_1 ?_
  refine lv_aload_n hx hb dX5_keep_4 rfl (lv_at hl 0 rfl) ?_
  refine va_get (D := (dC, dI)) (ci := 4) (v := .ref h0_held) (C := RX5) (T := TX5) (N := 3) hx hb hts (by decide +kernel) hown hK hP 0 rfl rfl 0 (by decide) (hts (.fieldLink RX5 11 "PointRings" "held" "[LPointRings$Curve;") (by decide +kernel)) (fun _ h9 => h9) rfl dX5_keep_5 ?_
  refine va_alen (v := 24) hx hb hK hP 1 0 rfl rfl rfl dX5_keep_8 ?_
  refine lv_icmp_lt (tgt := 15) hx hb dX5_keep_9 (by decide) (fun c1 => ?_) (fun c1 => ?_)
  · refine lv_aload_n hx hb dX5_keep_15 rfl (lv_at hl 0 rfl) ?_
    refine va_get (D := (dC, dI)) (ci := 4) (v := .ref h0_held) (C := RX5) (T := TX5) (N := 3) hx hb hts (by decide +kernel) hown hK hP 0 rfl rfl 0 (by decide) (hts (.fieldLink RX5 11 "PointRings" "held" "[LPointRings$Curve;") (by decide +kernel)) (fun _ h9 => h9) rfl dX5_keep_16 ?_
    refine lv_aload_n hx hb dX5_keep_19 rfl (lv_at hl 0 rfl) ?_
    refine va_get (D := (dC, dI)) (ci := 4) (v := .int t_size) (C := RX5) (T := TX5) (N := 3) hx hb hts (by decide +kernel) hown hK hP 0 rfl rfl 1 (by decide) (hts (.fieldLink RX5 15 "PointRings" "size" "I") (by decide +kernel)) (fun _ h9 => h9) rfl dX5_keep_20 ?_
    refine lv_aload_n hx hb dX5_keep_23 rfl (lv_at hl 1 rfl) ?_
    have hi2 : ¬ (t_size < 0 ∨ 24 ≤ t_size.toNatClampNeg) := fun hz => absurd ((if_pos hz).symm.trans h) (fun hh => nomatch hh)
    replace h := (if_neg hi2).symm.trans h
    refine va_astq hx hb hK hP hD hS 1 0 2 0 rfl rfl rfl rfl hi2 dX5_keep_24 (fun H locs hP hD hS => ?_)
    have hP : va_P (dC, dI) vwCl [(h0, .inr (4, [.ref h0_held, .int t_size, .ref h0_survey])), (h0_held, .inl (k_t_held, 24, .inr (.inr (.inr (.inr (va_up t_held t_size.toNatClampNeg (some h1))))))), (h1, .inr (0, [.int p0_p, .int p0_a, .int p0_b, .int p0_from, .int p0_kernelPoint, .int p0_kernelOrder, .int p0_points, .int p0_inner, .int p0_outer, .int p0_makersFound, .int p0_first, .int p0_second]))] H := hP
    have hD : va_D A [(h0, .inr (4, [.ref h0_held, .int t_size, .ref h0_survey])), (h0_held, .inl (k_t_held, 24, .inr (.inr (.inr (.inr (va_up t_held t_size.toNatClampNeg (some h1))))))), (h1, .inr (0, [.int p0_p, .int p0_a, .int p0_b, .int p0_from, .int p0_kernelPoint, .int p0_kernelOrder, .int p0_points, .int p0_inner, .int p0_outer, .int p0_makersFound, .int p0_first, .int p0_second]))] := hD
    refine lv_aload_n hx hb dX5_keep_25 rfl (lv_at hl 0 rfl) ?_
    refine lv_dup hx hb dX5_keep_26 rfl ?_
    refine va_get (D := (dC, dI)) (ci := 4) (v := .int t_size) (C := RX5) (T := TX5) (N := 3) hx hb hts (by decide +kernel) hown hK hP 0 rfl rfl 1 (by decide) (hts (.fieldLink RX5 15 "PointRings" "size" "I") (by decide +kernel)) (fun _ h9 => h9) rfl dX5_keep_27 ?_
    refine lv_iconst (v := 1) hx hb dX5_keep_30 (by decide) ?_
    refine lv_iadd hx hb dX5_keep_31 ?_
    refine lv_topi (fun v3 ev3 => ?_)
    replace h := mi_use ev3 h
    refine va_put (D := (dC, dI)) (ci := 4) (v := .int v3) (ty := .int) (C := RX5) (T := TX5) (N := 3) hx hb hts (by decide +kernel) tyX5 tyX5_ok nmX5 hown hK hP hD hS 0 rfl rfl 1 (by decide) (hts (.fieldLink RX5 15 "PointRings" "size" "I") (by decide +kernel)) (fun _ h9 => h9) rfl (by decide +kernel) rfl rfl (Nat.le_of_ble_eq_true rfl) dX5_keep_32 (fun H locs hP hD hS => ?_)
    have hP : va_P (dC, dI) vwCl [(h0, .inr (4, [.ref h0_held, .int v3, .ref h0_survey])), (h0_held, .inl (k_t_held, 24, .inr (.inr (.inr (.inr (va_up t_held t_size.toNatClampNeg (some h1))))))), (h1, .inr (0, [.int p0_p, .int p0_a, .int p0_b, .int p0_from, .int p0_kernelPoint, .int p0_kernelOrder, .int p0_points, .int p0_inner, .int p0_outer, .int p0_makersFound, .int p0_first, .int p0_second]))] H := hP
    have hD : va_D A [(h0, .inr (4, [.ref h0_held, .int v3, .ref h0_survey])), (h0_held, .inl (k_t_held, 24, .inr (.inr (.inr (.inr (va_up t_held t_size.toNatClampNeg (some h1))))))), (h1, .inr (0, [.int p0_p, .int p0_a, .int p0_b, .int p0_from, .int p0_kernelPoint, .int p0_kernelOrder, .int p0_points, .int p0_inner, .int p0_outer, .int p0_makersFound, .int p0_first, .int p0_second]))] := hD
    refine lv_aload_n hx hb dX5_keep_35 rfl (lv_at hl 0 rfl) ?_
    refine va_get (D := (dC, dI)) (ci := 4) (v := .int v3) (C := RX5) (T := TX5) (N := 3) hx hb hts (by decide +kernel) hown hK hP 0 rfl rfl 1 (by decide) (hts (.fieldLink RX5 15 "PointRings" "size" "I") (by decide +kernel)) (fun _ h9 => h9) rfl dX5_keep_36 ?_
    refine lv_iconst (v := 1) hx hb dX5_keep_39 (by decide) ?_
    refine lv_isub hx hb dX5_keep_40 ?_
    have hv : (v3 - 1, v3) = rr := Option.some.inj h
    have hP9 := hP.sub (ws' := [(h0, .inr (4, [.ref h0_held, .int v3, .ref h0_survey])), (h0_held, .inl (k_t_held, 24, .inr (.inr (.inr (.inr (va_up t_held t_size.toNatClampNeg (some h1))))))), (h1, .inr (0, [.int p0_p, .int p0_a, .int p0_b, .int p0_from, .int p0_kernelPoint, .int p0_kernelOrder, .int p0_points, .int p0_inner, .int p0_outer, .int p0_makersFound, .int p0_first, .int p0_second]))]) [0, 1, 2] rfl
    have hD9 := hD.sub (ws' := [(h0, .inr (4, [.ref h0_held, .int v3, .ref h0_survey])), (h0_held, .inl (k_t_held, 24, .inr (.inr (.inr (.inr (va_up t_held t_size.toNatClampNeg (some h1))))))), (h1, .inr (0, [.int p0_p, .int p0_a, .int p0_b, .int p0_from, .int p0_kernelPoint, .int p0_kernelOrder, .int p0_points, .int p0_inner, .int p0_outer, .int p0_makersFound, .int p0_first, .int p0_second]))]) [0, 1, 2] (by decide) rfl
    have hK9 := hK.sub (tys' := [(k_t_held, .object "PointRings$Curve")]) [0] rfl
    exact W.iret (v := (v3 - 1)) hx hb hr (fun t ht hW => ⟨⟨v3 - 1, v3, rfl, hv, by rw [ht]; exact hP9, va_K.moved hW.alike hK9, hD9⟩, hS.F ht⟩) hS.2.2 dX5_keep_41
  · exact absurd hk0 c1
