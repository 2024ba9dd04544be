def mX6_takePrime_b40 (N : Nat) (a0 : Int32) (st : Int32 × (Nat → Int32)) : Option ((Int32 × (Nat → Int32)) ⊕ (Int32 × (Nat → Int32))) :=
  match st with
  | (x6, x7) => if a0 ≤ x6 then some (.inr (x6, x7)) else if x6 = 0 then none else mi_let (a0 / x6) (fun v12 => if x6 = 0 then none else mi_let (mi_rem a0 x6) (fun v14 => if v14 < 0 ∨ 10008 ≤ v14.toNatClampNeg then none else mi_let (x7 v14.toNatClampNeg) (fun v16 => if a0.toInt64 = 0 then none else mi_let (mi_lrem (v12.toInt64 * v16.toInt64) a0.toInt64) (fun v18 => if a0.toInt64 = 0 then none else mi_let (mi_lrem (a0.toInt64 - v18) a0.toInt64) (fun v20 => if x6 < 0 ∨ 10008 ≤ x6.toNatClampNeg then none else mi_let (upd x7 x6.toNatClampNeg v20.toInt32) (fun f22 => mi_let (x6 + 1) (fun v23 => some (.inl (v23, f22)))))))))
def mX6_takePrime_b83 (N : Nat) (a0 : Int32) (st : Int32 × (Nat → Int32)) : Option ((Int32 × (Nat → Int32)) ⊕ (Int32 × (Nat → Int32))) :=
  match st with
  | (x25, x26) => if a0 ≤ x25 then some (.inr (x25, x26)) else if x25 < 0 ∨ 10008 ≤ x25.toNatClampNeg then none else mi_let (upd x26 x25.toNatClampNeg (-1)) (fun f31 => mi_let (x25 + 1) (fun v32 => some (.inl (v32, f31))))
def mX6_takePrime_b105 (N : Nat) (a0 : Int32) (st : Int32 × (Nat → Int32)) : Option ((Int32 × (Nat → Int32)) ⊕ (Int32 × (Nat → Int32))) :=
  match st with
  | (x35, x36) => if x35 < 0 then some (.inr (x35, x36)) else if a0.toInt64 = 0 then none else mi_let (mi_lrem (x35.toInt64 * x35.toInt64) a0.toInt64) (fun v41 => if v41.toInt32 < 0 ∨ 10008 ≤ v41.toInt32.toNatClampNeg then none else mi_let (upd x36 v41.toInt32.toNatClampNeg x35) (fun f43 => mi_let (x35 + (-1)) (fun v44 => some (.inl (v44, f43)))))
def mX6_takePrime (N : Nat) (t_rooted : Int32) (t_pointMany : Int32) (t_inverses : Nat → Int32) (t_roots : Nat → Int32) (a0 : Int32) : Option (Int32 × Int32 × Int32 × (Nat → Int32) × (Nat → Int32)) := if t_rooted = a0 then some (a0, t_rooted, t_pointMany, t_inverses, t_roots) else if (0 : Int32) < 0 ∨ 10008 ≤ (0 : Int32).toNatClampNeg then none else mi_let (upd t_inverses (0 : Int32).toNatClampNeg 0) (fun f3 => if (1 : Int32) < 0 ∨ 10008 ≤ (1 : Int32).toNatClampNeg then none else mi_let (upd f3 (1 : Int32).toNatClampNeg 1) (fun f5 => (mi_run (mX6_takePrime_b40 N a0) N (2, f5)).bind (fun o24 => match o24 with | (y8, y9) => (mi_run (mX6_takePrime_b83 N a0) N (0, t_roots)).bind (fun o33 => match o33 with | (y27, y28) => mi_let (a0 - 1) (fun v34 => (mi_run (mX6_takePrime_b105 N a0) N (v34, y28)).bind (fun o45 => match o45 with | (y37, y38) => some (a0, a0, 0, y9, y38)))))))
abbrev rmX6_takePrime : Room := { frames := 0, cells := 0, slots := 0, locals := 0 }
set_option maxHeartbeats 4000000 in
set_option maxRecDepth 100000 in
theorem ctX6_takePrime (l : Launch) (N : Nat) (dC : Nat → ClassId) (dI : Nat → Nat → Nat) (sz : Nat) (h0 : Nat) (h0_inverses : Nat) (h0_roots : Nat) (h0_points : Nat) (h0_ahead : Nat) (h0_ps : Nat) (h0_as : Nat) (h0_bs : Nat) (h0_from : Nat) (h0_kernelPoint : Nat) (h0_kernelOrder : Nat) (h0_marked : Nat) (h0_seen : Nat) (k_t_inverses : ClassId) (k_t_roots : ClassId) (t_p : Int32) (t_a : Int32) (t_b : Int32) (t_rooted : Int32) (t_pointMany : Int32) (t_curves : Int32) (t_inverses : Nat → Int32) (t_roots : Nat → Int32) (a0 : Int32) (rr : Int32 × Int32 × Int32 × (Nat → Int32) × (Nat → Int32)) (h : mX6_takePrime N t_rooted t_pointMany t_inverses t_roots a0 = some rr) : Met l yX6_takePrime wsX6_takePrime rmX6_takePrime (va_Pc [.ref h0, .int a0] (fun U => U.heap.size = sz ∧ va_P (dC, dI) vwCl [(h0, .inr (5, [.int t_p, .int t_a, .int t_b, .ref h0_inverses, .ref h0_roots, .int t_rooted, .ref h0_points, .int t_pointMany, .ref h0_ahead, .int t_curves, .ref h0_ps, .ref h0_as, .ref h0_bs, .ref h0_from, .ref h0_kernelPoint, .ref h0_kernelOrder, .ref h0_marked, .ref h0_seen])), (h0_inverses, .inl (k_t_inverses, 10008, .inl t_inverses)), (h0_roots, .inl (k_t_roots, 10008, .inl t_roots))] U.heap ∧ va_K (dC, dI) vwCl [(k_t_inverses, .int), (k_t_roots, .int)] U ∧ nw_all U ∧ va_D (fun _ => True) [(h0, .inr (5, [.int t_p, .int t_a, .int t_b, .ref h0_inverses, .ref h0_roots, .int t_rooted, .ref h0_points, .int t_pointMany, .ref h0_ahead, .int t_curves, .ref h0_ps, .ref h0_as, .ref h0_bs, .ref h0_from, .ref h0_kernelPoint, .ref h0_kernelOrder, .ref h0_marked, .ref h0_seen])), (h0_inverses, .inl (k_t_inverses, 10008, .inl t_inverses)), (h0_roots, .inl (k_t_roots, 10008, .inl t_roots))])) (va_Qv (fun (u : Int32 × Int32 × Int32 × (Nat → Int32) × (Nat → Int32)) => u = rr) (fun (u : Int32 × Int32 × Int32 × (Nat → Int32) × (Nat → Int32)) t => match u with | (u0, u1, u2, u3, u4) => va_P (dC, dI) vwCl [(h0, .inr (5, [.int u0, .int t_a, .int t_b, .ref h0_inverses, .ref h0_roots, .int u1, .ref h0_points, .int u2, .ref h0_ahead, .int t_curves, .ref h0_ps, .ref h0_as, .ref h0_bs, .ref h0_from, .ref h0_kernelPoint, .ref h0_kernelOrder, .ref h0_marked, .ref h0_seen])), (h0_inverses, .inl (k_t_inverses, 10008, .inl u3)), (h0_roots, .inl (k_t_roots, 10008, .inl u4))] t.heap ∧ va_K (dC, dI) vwCl [(k_t_inverses, .int), (k_t_roots, .int)] t ∧ va_D (va_A [(h0, .inr (5, [.int t_p, .int t_a, .int t_b, .ref h0_inverses, .ref h0_roots, .int t_rooted, .ref h0_points, .int t_pointMany, .ref h0_ahead, .int t_curves, .ref h0_ps, .ref h0_as, .ref h0_bs, .ref h0_from, .ref h0_kernelPoint, .ref h0_kernelOrder, .ref h0_marked, .ref h0_seen])), (h0_inverses, .inl (k_t_inverses, 10008, .inl t_inverses)), (h0_roots, .inl (k_t_roots, 10008, .inl t_roots))] sz) [(h0, .inr (5, [.int u0, .int t_a, .int t_b, .ref h0_inverses, .ref h0_roots, .int u1, .ref h0_points, .int u2, .ref h0_ahead, .int t_curves, .ref h0_ps, .ref h0_as, .ref h0_bs, .ref h0_from, .ref h0_kernelPoint, .ref h0_kernelOrder, .ref h0_marked, .ref h0_seen])), (h0_inverses, .inl (k_t_inverses, 10008, .inl u3)), (h0_roots, .inl (k_t_roots, 10008, .inl u4))]) (va_A [(h0, .inr (5, [.int t_p, .int t_a, .int t_b, .ref h0_inverses, .ref h0_roots, .int t_rooted, .ref h0_points, .int t_pointMany, .ref h0_ahead, .int t_curves, .ref h0_ps, .ref h0_as, .ref h0_bs, .ref h0_from, .ref h0_kernelPoint, .ref h0_kernelOrder, .ref h0_marked, .ref h0_seen])), (h0_inverses, .inl (k_t_inverses, 10008, .inl t_inverses)), (h0_roots, .inl (k_t_roots, 10008, .inl t_roots))] sz)) 0 0 (va_A [(h0, .inr (5, [.int t_p, .int t_a, .int t_b, .ref h0_inverses, .ref h0_roots, .int t_rooted, .ref h0_points, .int t_pointMany, .ref h0_ahead, .int t_curves, .ref h0_ps, .ref h0_as, .ref h0_bs, .ref h0_from, .ref h0_kernelPoint, .ref h0_kernelOrder, .ref h0_marked, .ref h0_seen])), (h0_inverses, .inl (k_t_inverses, 10008, .inl t_inverses)), (h0_roots, .inl (k_t_roots, 10008, .inl t_roots))] sz) := by
  refine Met.ofW (cc := cX6_takePrime) (maxL := 3) (ret := none) (by decide) rfl ?_
  intro p e s m args below meth c s₁ B hml hv
  obtain ⟨rfl, hsz, hP, hK, hN, hD0⟩ := hv
  have hx := B.exec
  have hb := B.bytes
  have hr := B.returns
  have hts := atoms_spec (ws := wsX6_takePrime) B.pre
  have hown : s.vm.findClass RX6 = some m.cls := findClass_of_methodNamed B.named
  have hlocks := B.notSynchronized
  subst hsz
  have hD := hD0.self (sz := s.heap.size)
  generalize hAe : va_A [(h0, .inr (5, [.int t_p, .int t_a, .int t_b, .ref h0_inverses, .ref h0_roots, .int t_rooted, .ref h0_points, .int t_pointMany, .ref h0_ahead, .int t_curves, .ref h0_ps, .ref h0_as, .ref h0_bs, .ref h0_from, .ref h0_kernelPoint, .ref h0_kernelOrder, .ref h0_marked, .ref h0_seen])), (h0_inverses, .inl (k_t_inverses, 10008, .inl t_inverses)), (h0_roots, .inl (k_t_roots, 10008, .inl t_roots))] s.heap.size = A at hD ⊢
  have hA0 : ∀ q : Nat, s.heap.size ≤ q → A q := fun q h => by rw [← hAe]; exact Or.inr h
  have hS : va_S A s.heap s.heap [] := va_S.rf
  have hP : va_P (dC, dI) vwCl [(h0, .inr (5, [.int t_p, .int t_a, .int t_b, .ref h0_inverses, .ref h0_roots, .int t_rooted, .ref h0_points, .int t_pointMany, .ref h0_ahead, .int t_curves, .ref h0_ps, .ref h0_as, .ref h0_bs, .ref h0_from, .ref h0_kernelPoint, .ref h0_kernelOrder, .ref h0_marked, .ref h0_seen])), (h0_inverses, .inl (k_t_inverses, 10008, .inl t_inverses)), (h0_roots, .inl (k_t_roots, 10008, .inl t_roots))] s.heap := hP
  have hl := lv_entry ([.ref h0, .int a0]) (n := 3) (Nat.le_of_ble_eq_true rfl)
  rw [lg_entry_eq]
  generalize (lg_sl ([.ref h0, .int a0]) ++ List.replicate (3 - (lg_sl ([.ref h0, .int a0])).length) Slot.unset).toArray = ls at hl ⊢
  have hl : lv_has ls 3 [(0, .ref h0), (1, .int a0)] := hl
  dsimp only [mX6_takePrime] at h
  refine lv_aload_n hx hb dX6_takePrime_0 rfl (lv_at hl 0 rfl) ?_
  refine lv_iload_n hx hb dX6_takePrime_1 rfl (lv_at hl 1 rfl) ?_
  refine va_put (D := (dC, dI)) (ci := 5) (v := .int a0) (ty := .int) (C := RX6) (T := TX6) (N := 18) hx hb hts (by decide +kernel) tyX6 tyX6_ok nmX6 hown hK hP hD hS 0 rfl rfl 0 (by decide) (hts (.fieldLink RX6 47 "PointRingsModel" "p" "I") (by decide +kernel)) (fun _ h9 => h9) rfl (by decide +kernel) rfl rfl (Nat.le_of_ble_eq_true rfl) dX6_takePrime_2 (fun H locs hP hD hS => ?_)
  have hP : va_P (dC, dI) vwCl [(h0, .inr (5, [.int a0, .int t_a, .int t_b, .ref h0_inverses, .ref h0_roots, .int t_rooted, .ref h0_points, .int t_pointMany, .ref h0_ahead, .int t_curves, .ref h0_ps, .ref h0_as, .ref h0_bs, .ref h0_from, .ref h0_kernelPoint, .ref h0_kernelOrder, .ref h0_marked, .ref h0_seen])), (h0_inverses, .inl (k_t_inverses, 10008, .inl t_inverses)), (h0_roots, .inl (k_t_roots, 10008, .inl t_roots))] H := hP
  have hD : va_D A [(h0, .inr (5, [.int a0, .int t_a, .int t_b, .ref h0_inverses, .ref h0_roots, .int t_rooted, .ref h0_points, .int t_pointMany, .ref h0_ahead, .int t_curves, .ref h0_ps, .ref h0_as, .ref h0_bs, .ref h0_from, .ref h0_kernelPoint, .ref h0_kernelOrder, .ref h0_marked, .ref h0_seen])), (h0_inverses, .inl (k_t_inverses, 10008, .inl t_inverses)), (h0_roots, .inl (k_t_roots, 10008, .inl t_roots))] := hD
  refine lv_aload_n hx hb dX6_takePrime_5 rfl (lv_at hl 0 rfl) ?_
  refine va_get (D := (dC, dI)) (ci := 5) (v := .int t_rooted) (C := RX6) (T := TX6) (N := 18) hx hb hts (by decide +kernel) hown hK hP 0 rfl rfl 5 (by decide) (hts (.fieldLink RX6 51 "PointRingsModel" "rooted" "I") (by decide +kernel)) (fun _ h9 => h9) rfl dX6_takePrime_6 ?_
  refine lv_iload_n hx hb dX6_takePrime_9 rfl (lv_at hl 1 rfl) ?_
  refine lv_icmp_ne (tgt := 14) hx hb dX6_takePrime_10 (by decide) (fun c1 => ?_) (fun c1 => ?_)
  · replace h := (if_neg c1).symm.trans h
    refine lv_aload_n hx hb dX6_takePrime_14 rfl (lv_at hl 0 rfl) ?_
    refine lv_iload_n hx hb dX6_takePrime_15 rfl (lv_at hl 1 rfl) ?_
    refine va_put (D := (dC, dI)) (ci := 5) (v := .int a0) (ty := .int) (C := RX6) (T := TX6) (N := 18) hx hb hts (by decide +kernel) tyX6 tyX6_ok nmX6 hown hK hP hD hS 0 rfl rfl 5 (by decide) (hts (.fieldLink RX6 51 "PointRingsModel" "rooted" "I") (by decide +kernel)) (fun _ h9 => h9) rfl (by decide +kernel) rfl rfl (Nat.le_of_ble_eq_true rfl) dX6_takePrime_16 (fun H locs hP hD hS => ?_)
    have hP : va_P (dC, dI) vwCl [(h0, .inr (5, [.int a0, .int t_a, .int t_b, .ref h0_inverses, .ref h0_roots, .int a0, .ref h0_points, .int t_pointMany, .ref h0_ahead, .int t_curves, .ref h0_ps, .ref h0_as, .ref h0_bs, .ref h0_from, .ref h0_kernelPoint, .ref h0_kernelOrder, .ref h0_marked, .ref h0_seen])), (h0_inverses, .inl (k_t_inverses, 10008, .inl t_inverses)), (h0_roots, .inl (k_t_roots, 10008, .inl t_roots))] H := hP
    have hD : va_D A [(h0, .inr (5, [.int a0, .int t_a, .int t_b, .ref h0_inverses, .ref h0_roots, .int a0, .ref h0_points, .int t_pointMany, .ref h0_ahead, .int t_curves, .ref h0_ps, .ref h0_as, .ref h0_bs, .ref h0_from, .ref h0_kernelPoint, .ref h0_kernelOrder, .ref h0_marked, .ref h0_seen])), (h0_inverses, .inl (k_t_inverses, 10008, .inl t_inverses)), (h0_roots, .inl (k_t_roots, 10008, .inl t_roots))] := hD
    refine lv_aload_n hx hb dX6_takePrime_19 rfl (lv_at hl 0 rfl) ?_
    refine lv_iconst (v := 0) hx hb dX6_takePrime_20 (by decide) ?_
    refine va_put (D := (dC, dI)) (ci := 5) (v := .int 0) (ty := .int) (C := RX6) (T := TX6) (N := 18) hx hb hts (by decide +kernel) tyX6 tyX6_ok nmX6 hown hK hP hD hS 0 rfl rfl 7 (by decide) (hts (.fieldLink RX6 54 "PointRingsModel" "pointMany" "I") (by decide +kernel)) (fun _ h9 => h9) rfl (by decide +kernel) rfl rfl (Nat.le_of_ble_eq_true rfl) dX6_takePrime_21 (fun H locs hP hD hS => ?_)
    have hP : va_P (dC, dI) vwCl [(h0, .inr (5, [.int a0, .int t_a, .int t_b, .ref h0_inverses, .ref h0_roots, .int a0, .ref h0_points, .int 0, .ref h0_ahead, .int t_curves, .ref h0_ps, .ref h0_as, .ref h0_bs, .ref h0_from, .ref h0_kernelPoint, .ref h0_kernelOrder, .ref h0_marked, .ref h0_seen])), (h0_inverses, .inl (k_t_inverses, 10008, .inl t_inverses)), (h0_roots, .inl (k_t_roots, 10008, .inl t_roots))] H := hP
    have hD : va_D A [(h0, .inr (5, [.int a0, .int t_a, .int t_b, .ref h0_inverses, .ref h0_roots, .int a0, .ref h0_points, .int 0, .ref h0_ahead, .int t_curves, .ref h0_ps, .ref h0_as, .ref h0_bs, .ref h0_from, .ref h0_kernelPoint, .ref h0_kernelOrder, .ref h0_marked, .ref h0_seen])), (h0_inverses, .inl (k_t_inverses, 10008, .inl t_inverses)), (h0_roots, .inl (k_t_roots, 10008, .inl t_roots))] := hD
    refine lv_aload_n hx hb dX6_takePrime_24 rfl (lv_at hl 0 rfl) ?_
    refine va_get (D := (dC, dI)) (ci := 5) (v := .ref h0_inverses) (C := RX6) (T := TX6) (N := 18) hx hb hts (by decide +kernel) hown hK hP 0 rfl rfl 3 (by decide) (hts (.fieldLink RX6 7 "PointRingsModel" "inverses" "[I") (by decide +kernel)) (fun _ h9 => h9) rfl dX6_takePrime_25 ?_
    refine lv_iconst (v := 0) hx hb dX6_takePrime_28 (by decide) ?_
    refine lv_iconst (v := 0) hx hb dX6_takePrime_29 (by decide) ?_
    have hi2 : ¬ ((0 : Int32) < 0 ∨ 10008 ≤ (0 : Int32).toNatClampNeg) := fun hz => absurd ((if_pos hz).symm.trans h) (fun hh => nomatch hh)
    replace h := (if_neg hi2).symm.trans h
    refine va_iast hx hb hK hP hD hS 1 0 rfl rfl hi2 dX6_takePrime_30 (fun H locs hP hD hS => ?_)
    have hP : va_P (dC, dI) vwCl [(h0, .inr (5, [.int a0, .int t_a, .int t_b, .ref h0_inverses, .ref h0_roots, .int a0, .ref h0_points, .int 0, .ref h0_ahead, .int t_curves, .ref h0_ps, .ref h0_as, .ref h0_bs, .ref h0_from, .ref h0_kernelPoint, .ref h0_kernelOrder, .ref h0_marked, .ref h0_seen])), (h0_inverses, .inl (k_t_inverses, 10008, .inl (upd t_inverses (0 : Int32).toNatClampNeg 0))), (h0_roots, .inl (k_t_roots, 10008, .inl t_roots))] H := hP
    have hD : va_D A [(h0, .inr (5, [.int a0, .int t_a, .int t_b, .ref h0_inverses, .ref h0_roots, .int a0, .ref h0_points, .int 0, .ref h0_ahead, .int t_curves, .ref h0_ps, .ref h0_as, .ref h0_bs, .ref h0_from, .ref h0_kernelPoint, .ref h0_kernelOrder, .ref h0_marked, .ref h0_seen])), (h0_inverses, .inl (k_t_inverses, 10008, .inl (upd t_inverses (0 : Int32).toNatClampNeg 0))), (h0_roots, .inl (k_t_roots, 10008, .inl t_roots))] := hD
    obtain ⟨f3, ef3⟩ : ∃ z : Nat → Int32, z = upd t_inverses (0 : Int32).toNatClampNeg 0 := ⟨_, rfl⟩
    rw [← ef3] at hP hD
    replace h := mi_use ef3 h
    refine lv_aload_n hx hb dX6_takePrime_31 rfl (lv_at hl 0 rfl) ?_
    refine va_get (D := (dC, dI)) (ci := 5) (v := .ref h0_inverses) (C := RX6) (T := TX6) (N := 18) hx hb hts (by decide +kernel) hown hK hP 0 rfl rfl 3 (by decide) (hts (.fieldLink RX6 7 "PointRingsModel" "inverses" "[I") (by decide +kernel)) (fun _ h9 => h9) rfl dX6_takePrime_32 ?_
    refine lv_iconst (v := 1) hx hb dX6_takePrime_35 (by decide) ?_
    refine lv_iconst (v := 1) hx hb dX6_takePrime_36 (by decide) ?_
    have hi4 : ¬ ((1 : Int32) < 0 ∨ 10008 ≤ (1 : Int32).toNatClampNeg) := fun hz => absurd ((if_pos hz).symm.trans h) (fun hh => nomatch hh)
    replace h := (if_neg hi4).symm.trans h
    refine va_iast hx hb hK hP hD hS 1 0 rfl rfl hi4 dX6_takePrime_37 (fun H locs hP hD hS => ?_)
    have hP : va_P (dC, dI) vwCl [(h0, .inr (5, [.int a0, .int t_a, .int t_b, .ref h0_inverses, .ref h0_roots, .int a0, .ref h0_points, .int 0, .ref h0_ahead, .int t_curves, .ref h0_ps, .ref h0_as, .ref h0_bs, .ref h0_from, .ref h0_kernelPoint, .ref h0_kernelOrder, .ref h0_marked, .ref h0_seen])), (h0_inverses, .inl (k_t_inverses, 10008, .inl (upd f3 (1 : Int32).toNatClampNeg 1))), (h0_roots, .inl (k_t_roots, 10008, .inl t_roots))] H := hP
    have hD : va_D A [(h0, .inr (5, [.int a0, .int t_a, .int t_b, .ref h0_inverses, .ref h0_roots, .int a0, .ref h0_points, .int 0, .ref h0_ahead, .int t_curves, .ref h0_ps, .ref h0_as, .ref h0_bs, .ref h0_from, .ref h0_kernelPoint, .ref h0_kernelOrder, .ref h0_marked, .ref h0_seen])), (h0_inverses, .inl (k_t_inverses, 10008, .inl (upd f3 (1 : Int32).toNatClampNeg 1))), (h0_roots, .inl (k_t_roots, 10008, .inl t_roots))] := hD
    obtain ⟨f5, ef5⟩ : ∃ z : Nat → Int32, z = upd f3 (1 : Int32).toNatClampNeg 1 := ⟨_, rfl⟩
    rw [← ef5] at hP hD
    replace h := mi_use ef5 h
    refine lv_iconst (v := 2) hx hb dX6_takePrime_38 (by decide) ?_
    refine lv_istore_n (lv' := [(2, .int 2), (0, .ref h0), (1, .int a0)]) hx hb dX6_takePrime_39 rfl hl (by decide) rfl (fun ls hl => ?_)
    have L40 : ∀ (n : Nat) (x6 : Int32) (x7 : Nat → Int32) (o : Int32 × (Nat → Int32)), mi_run (mX6_takePrime_b40 N a0) n (x6, x7) = some o → (∀ (y8 : Int32) (y9 : Nat → Int32), o = (y8, y9) → ∀ (H : Heap) (locs : List Loc) (ls : Array Slot), va_P (dC, dI) vwCl [(h0, .inr (5, [.int a0, .int t_a, .int t_b, .ref h0_inverses, .ref h0_roots, .int a0, .ref h0_points, .int 0, .ref h0_ahead, .int t_curves, .ref h0_ps, .ref h0_as, .ref h0_bs, .ref h0_from, .ref h0_kernelPoint, .ref h0_kernelOrder, .ref h0_marked, .ref h0_seen])), (h0_inverses, .inl (k_t_inverses, 10008, .inl y9)), (h0_roots, .inl (k_t_roots, 10008, .inl t_roots))] H → va_D A [(h0, .inr (5, [.int a0, .int t_a, .int t_b, .ref h0_inverses, .ref h0_roots, .int a0, .ref h0_points, .int 0, .ref h0_ahead, .int t_curves, .ref h0_ps, .ref h0_as, .ref h0_bs, .ref h0_from, .ref h0_kernelPoint, .ref h0_kernelOrder, .ref h0_marked, .ref h0_seen])), (h0_inverses, .inl (k_t_inverses, 10008, .inl y9)), (h0_roots, .inl (k_t_roots, 10008, .inl t_roots))] → va_S A s.heap H locs → lv_has ls 3 [(2, .int y8), (0, .ref h0), (1, .int a0)] → W p l e (headSpec wsX6_takePrime rmX6_takePrime).room s m (([.ref h0, .int a0] : List Value).toArray) below meth c H locs 0 0 (MQ below (va_Qv (fun (u : Int32 × Int32 × Int32 × (Nat → Int32) × (Nat → Int32)) => u = rr) (fun (u : Int32 × Int32 × Int32 × (Nat → Int32) × (Nat → Int32)) t => match u with | (u0, u1, u2, u3, u4) => va_P (dC, dI) vwCl [(h0, .inr (5, [.int u0, .int t_a, .int t_b, .ref h0_inverses, .ref h0_roots, .int u1, .ref h0_points, .int u2, .ref h0_ahead, .int t_curves, .ref h0_ps, .ref h0_as, .ref h0_bs, .ref h0_from, .ref h0_kernelPoint, .ref h0_kernelOrder, .ref h0_marked, .ref h0_seen])), (h0_inverses, .inl (k_t_inverses, 10008, .inl u3)), (h0_roots, .inl (k_t_roots, 10008, .inl u4))] t.heap ∧ va_K (dC, dI) vwCl [(k_t_inverses, .int), (k_t_roots, .int)] t ∧ va_D (A) [(h0, .inr (5, [.int u0, .int t_a, .int t_b, .ref h0_inverses, .ref h0_roots, .int u1, .ref h0_points, .int u2, .ref h0_ahead, .int t_curves, .ref h0_ps, .ref h0_as, .ref h0_bs, .ref h0_from, .ref h0_kernelPoint, .ref h0_kernelOrder, .ref h0_marked, .ref h0_seen])), (h0_inverses, .inl (k_t_inverses, 10008, .inl u3)), (h0_roots, .inl (k_t_roots, 10008, .inl u4))]) (A)) (([.ref h0, .int a0] : List Value).toArray) s 0 0 A) (F0 m 81 ls [])) → ∀ (H : Heap) (locs : List Loc) (ls : Array Slot), va_P (dC, dI) vwCl [(h0, .inr (5, [.int a0, .int t_a, .int t_b, .ref h0_inverses, .ref h0_roots, .int a0, .ref h0_points, .int 0, .ref h0_ahead, .int t_curves, .ref h0_ps, .ref h0_as, .ref h0_bs, .ref h0_from, .ref h0_kernelPoint, .ref h0_kernelOrder, .ref h0_marked, .ref h0_seen])), (h0_inverses, .inl (k_t_inverses, 10008, .inl x7)), (h0_roots, .inl (k_t_roots, 10008, .inl t_roots))] H → va_D A [(h0, .inr (5, [.int a0, .int t_a, .int t_b, .ref h0_inverses, .ref h0_roots, .int a0, .ref h0_points, .int 0, .ref h0_ahead, .int t_curves, .ref h0_ps, .ref h0_as, .ref h0_bs, .ref h0_from, .ref h0_kernelPoint, .ref h0_kernelOrder, .ref h0_marked, .ref h0_seen])), (h0_inverses, .inl (k_t_inverses, 10008, .inl x7)), (h0_roots, .inl (k_t_roots, 10008, .inl t_roots))] → va_S A s.heap H locs → lv_has ls 3 [(2, .int x6), (0, .ref h0), (1, .int a0)] → W p l e (headSpec wsX6_takePrime rmX6_takePrime).room s m (([.ref h0, .int a0] : List Value).toArray) below meth c H locs 0 0 (MQ below (va_Qv (fun (u : Int32 × Int32 × Int32 × (Nat → Int32) × (Nat → Int32)) => u = rr) (fun (u : Int32 × Int32 × Int32 × (Nat → Int32) × (Nat → Int32)) t => match u with | (u0, u1, u2, u3, u4) => va_P (dC, dI) vwCl [(h0, .inr (5, [.int u0, .int t_a, .int t_b, .ref h0_inverses, .ref h0_roots, .int u1, .ref h0_points, .int u2, .ref h0_ahead, .int t_curves, .ref h0_ps, .ref h0_as, .ref h0_bs, .ref h0_from, .ref h0_kernelPoint, .ref h0_kernelOrder, .ref h0_marked, .ref h0_seen])), (h0_inverses, .inl (k_t_inverses, 10008, .inl u3)), (h0_roots, .inl (k_t_roots, 10008, .inl u4))] t.heap ∧ va_K (dC, dI) vwCl [(k_t_inverses, .int), (k_t_roots, .int)] t ∧ va_D (A) [(h0, .inr (5, [.int u0, .int t_a, .int t_b, .ref h0_inverses, .ref h0_roots, .int u1, .ref h0_points, .int u2, .ref h0_ahead, .int t_curves, .ref h0_ps, .ref h0_as, .ref h0_bs, .ref h0_from, .ref h0_kernelPoint, .ref h0_kernelOrder, .ref h0_marked, .ref h0_seen])), (h0_inverses, .inl (k_t_inverses, 10008, .inl u3)), (h0_roots, .inl (k_t_roots, 10008, .inl u4))]) (A)) (([.ref h0, .int a0] : List Value).toArray) s 0 0 A) (F0 m 40 ls []) := by
      intro n
      induction n with
      | zero => intro x6 x7 o h; exact absurd h (mi_run_0 _ _ _)
      | succ n ih =>
        intro x6 x7 o h hkE H locs ls hP hD hS hl
        obtain ⟨w, h, hA, hB⟩ := mi_run_s h
        dsimp only [mX6_takePrime_b40] at h
        refine lv_iload_n hx hb dX6_takePrime_40 rfl (lv_at hl 0 rfl) ?_
        refine lv_iload_n hx hb dX6_takePrime_41 rfl (lv_at hl 2 rfl) ?_
        refine lv_icmp_ge (tgt := 81) hx hb dX6_takePrime_42 (by decide) (fun c10 => ?_) (fun c10 => ?_)
        · replace h := (if_pos c10).symm.trans h
          exact hkE _ _ (hB _ (Option.some.inj h).symm) _ _ ls hP hD hS (lv_sub hl [0, 1, 2] rfl)
        · replace h := (if_neg c10).symm.trans h
          refine lv_aload_n hx hb dX6_takePrime_45 rfl (lv_at hl 1 rfl) ?_
          refine va_get (D := (dC, dI)) (ci := 5) (v := .ref h0_inverses) (C := RX6) (T := TX6) (N := 18) hx hb hts (by decide +kernel) hown hK hP 0 rfl rfl 3 (by decide) (hts (.fieldLink RX6 7 "PointRingsModel" "inverses" "[I") (by decide +kernel)) (fun _ h9 => h9) rfl dX6_takePrime_46 ?_
          refine lv_iload_n hx hb dX6_takePrime_49 rfl (lv_at hl 0 rfl) ?_
          refine lv_iload_n hx hb dX6_takePrime_50 rfl (lv_at hl 2 rfl) ?_
          refine lv_i2l hx hb dX6_takePrime_51 rfl ?_
          refine lv_iload_n hx hb dX6_takePrime_52 rfl (lv_at hl 2 rfl) ?_
          refine lv_iload_n hx hb dX6_takePrime_53 rfl (lv_at hl 0 rfl) ?_
          have hn11 : ¬ x6 = 0 := fun hz => absurd ((if_pos hz).symm.trans h) (fun hh => nomatch hh)
          replace h := (if_neg hn11).symm.trans h
          refine lv_idiv hx hb dX6_takePrime_54 hn11 ?_
          refine lv_topi (fun v12 ev12 => ?_)
          replace h := mi_use ev12 h
          refine lv_i2l hx hb dX6_takePrime_55 rfl ?_
          refine lv_aload_n hx hb dX6_takePrime_56 rfl (lv_at hl 1 rfl) ?_
          refine va_get (D := (dC, dI)) (ci := 5) (v := .ref h0_inverses) (C := RX6) (T := TX6) (N := 18) hx hb hts (by decide +kernel) hown hK hP 0 rfl rfl 3 (by decide) (hts (.fieldLink RX6 7 "PointRingsModel" "inverses" "[I") (by decide +kernel)) (fun _ h9 => h9) rfl dX6_takePrime_57 ?_
          refine lv_iload_n hx hb dX6_takePrime_60 rfl (lv_at hl 2 rfl) ?_
          refine lv_iload_n hx hb dX6_takePrime_61 rfl (lv_at hl 0 rfl) ?_
          have hn13 : ¬ x6 = 0 := fun hz => absurd ((if_pos hz).symm.trans h) (fun hh => nomatch hh)
          replace h := (if_neg hn13).symm.trans h
          refine lv_irem hx hb dX6_takePrime_62 hn13 ?_
          refine lv_topi (fun v14 ev14 => ?_)
          replace h := mi_use ev14 h
          have hi15 : ¬ (v14 < 0 ∨ 10008 ≤ v14.toNatClampNeg) := fun hz => absurd ((if_pos hz).symm.trans h) (fun hh => nomatch hh)
          replace h := (if_neg hi15).symm.trans h
          refine va_iald hx hb hK hP 1 0 rfl rfl hi15 dX6_takePrime_63 ?_
          refine lv_topi (fun v16 ev16 => ?_)
          replace h := mi_use ev16 h
          refine lv_i2l hx hb dX6_takePrime_64 rfl ?_
          refine lv_lmul hx hb dX6_takePrime_65 ?_
          refine lv_iload_n hx hb dX6_takePrime_66 rfl (lv_at hl 2 rfl) ?_
          refine lv_i2l hx hb dX6_takePrime_67 rfl ?_
          have hn17 : ¬ a0.toInt64 = 0 := fun hz => absurd ((if_pos hz).symm.trans h) (fun hh => nomatch hh)
          replace h := (if_neg hn17).symm.trans h
          refine lv_lrem hx hb dX6_takePrime_68 hn17 ?_
          refine lv_topl (fun v18 ev18 => ?_)
          replace h := mi_use ev18 h
          refine lv_lsub hx hb dX6_takePrime_69 ?_
          refine lv_iload_n hx hb dX6_takePrime_70 rfl (lv_at hl 2 rfl) ?_
          refine lv_i2l hx hb dX6_takePrime_71 rfl ?_
          have hn19 : ¬ a0.toInt64 = 0 := fun hz => absurd ((if_pos hz).symm.trans h) (fun hh => nomatch hh)
          replace h := (if_neg hn19).symm.trans h
          refine lv_lrem hx hb dX6_takePrime_72 hn19 ?_
          refine lv_topl (fun v20 ev20 => ?_)
          replace h := mi_use ev20 h
          refine lv_l2i hx hb dX6_takePrime_73 rfl ?_
          have hi21 : ¬ (x6 < 0 ∨ 10008 ≤ x6.toNatClampNeg) := fun hz => absurd ((if_pos hz).symm.trans h) (fun hh => nomatch hh)
          replace h := (if_neg hi21).symm.trans h
          refine va_iast hx hb hK hP hD hS 1 0 rfl rfl hi21 dX6_takePrime_74 (fun H locs hP hD hS => ?_)
          have hP : va_P (dC, dI) vwCl [(h0, .inr (5, [.int a0, .int t_a, .int t_b, .ref h0_inverses, .ref h0_roots, .int a0, .ref h0_points, .int 0, .ref h0_ahead, .int t_curves, .ref h0_ps, .ref h0_as, .ref h0_bs, .ref h0_from, .ref h0_kernelPoint, .ref h0_kernelOrder, .ref h0_marked, .ref h0_seen])), (h0_inverses, .inl (k_t_inverses, 10008, .inl (upd x7 x6.toNatClampNeg v20.toInt32))), (h0_roots, .inl (k_t_roots, 10008, .inl t_roots))] H := hP
          have hD : va_D A [(h0, .inr (5, [.int a0, .int t_a, .int t_b, .ref h0_inverses, .ref h0_roots, .int a0, .ref h0_points, .int 0, .ref h0_ahead, .int t_curves, .ref h0_ps, .ref h0_as, .ref h0_bs, .ref h0_from, .ref h0_kernelPoint, .ref h0_kernelOrder, .ref h0_marked, .ref h0_seen])), (h0_inverses, .inl (k_t_inverses, 10008, .inl (upd x7 x6.toNatClampNeg v20.toInt32))), (h0_roots, .inl (k_t_roots, 10008, .inl t_roots))] := hD
          obtain ⟨f22, ef22⟩ : ∃ z : Nat → Int32, z = upd x7 x6.toNatClampNeg v20.toInt32 := ⟨_, rfl⟩
          rw [← ef22] at hP hD
          replace h := mi_use ef22 h
          obtain ⟨v23, ev23⟩ : ∃ z : Int32, z = x6 + 1 := ⟨_, rfl⟩
          refine lv_iinc (v := v23) (lv' := [(2, .int v23), (0, .ref h0), (1, .int a0)]) hx hb dX6_takePrime_75 hl (k := 0) rfl (by rw [ev23]; rfl) (by decide) rfl (fun ls hl => ?_)
          replace h := mi_use ev23 h
          refine lv_goto (tgt := 40) hx hb dX6_takePrime_78 (by decide) ?_
          exact ih _ _ _ (hA _ (Option.some.inj h).symm) hkE _ _ ls hP hD hS (lv_sub hl [0, 1, 2] rfl)
    obtain ⟨o24, ho24, h⟩ := Option.bind_eq_some_iff.mp h
    refine L40 N _ _ o24 ho24 ?_ _ _ ls hP hD hS (lv_sub hl [0, 1, 2] rfl)
    intro y8 y9 eo H locs ls hP hD hS hl
    subst eo
    try dsimp only at h
    refine lv_iconst (v := 0) hx hb dX6_takePrime_81 (by decide) ?_
    refine lv_istore_n (lv' := [(2, .int 0), (0, .ref h0), (1, .int a0)]) hx hb dX6_takePrime_82 rfl hl (by decide) rfl (fun ls hl => ?_)
    have L83 : ∀ (n : Nat) (x25 : Int32) (x26 : Nat → Int32) (o : Int32 × (Nat → Int32)), mi_run (mX6_takePrime_b83 N a0) n (x25, x26) = some o → (∀ (y27 : Int32) (y28 : Nat → Int32), o = (y27, y28) → ∀ (H : Heap) (locs : List Loc) (ls : Array Slot), va_P (dC, dI) vwCl [(h0, .inr (5, [.int a0, .int t_a, .int t_b, .ref h0_inverses, .ref h0_roots, .int a0, .ref h0_points, .int 0, .ref h0_ahead, .int t_curves, .ref h0_ps, .ref h0_as, .ref h0_bs, .ref h0_from, .ref h0_kernelPoint, .ref h0_kernelOrder, .ref h0_marked, .ref h0_seen])), (h0_inverses, .inl (k_t_inverses, 10008, .inl y9)), (h0_roots, .inl (k_t_roots, 10008, .inl y28))] H → va_D A [(h0, .inr (5, [.int a0, .int t_a, .int t_b, .ref h0_inverses, .ref h0_roots, .int a0, .ref h0_points, .int 0, .ref h0_ahead, .int t_curves, .ref h0_ps, .ref h0_as, .ref h0_bs, .ref h0_from, .ref h0_kernelPoint, .ref h0_kernelOrder, .ref h0_marked, .ref h0_seen])), (h0_inverses, .inl (k_t_inverses, 10008, .inl y9)), (h0_roots, .inl (k_t_roots, 10008, .inl y28))] → va_S A s.heap H locs → lv_has ls 3 [(2, .int y27), (0, .ref h0), (1, .int a0)] → W p l e (headSpec wsX6_takePrime rmX6_takePrime).room s m (([.ref h0, .int a0] : List Value).toArray) below meth c H locs 0 0 (MQ below (va_Qv (fun (u : Int32 × Int32 × Int32 × (Nat → Int32) × (Nat → Int32)) => u = rr) (fun (u : Int32 × Int32 × Int32 × (Nat → Int32) × (Nat → Int32)) t => match u with | (u0, u1, u2, u3, u4) => va_P (dC, dI) vwCl [(h0, .inr (5, [.int u0, .int t_a, .int t_b, .ref h0_inverses, .ref h0_roots, .int u1, .ref h0_points, .int u2, .ref h0_ahead, .int t_curves, .ref h0_ps, .ref h0_as, .ref h0_bs, .ref h0_from, .ref h0_kernelPoint, .ref h0_kernelOrder, .ref h0_marked, .ref h0_seen])), (h0_inverses, .inl (k_t_inverses, 10008, .inl u3)), (h0_roots, .inl (k_t_roots, 10008, .inl u4))] t.heap ∧ va_K (dC, dI) vwCl [(k_t_inverses, .int), (k_t_roots, .int)] t ∧ va_D (A) [(h0, .inr (5, [.int u0, .int t_a, .int t_b, .ref h0_inverses, .ref h0_roots, .int u1, .ref h0_points, .int u2, .ref h0_ahead, .int t_curves, .ref h0_ps, .ref h0_as, .ref h0_bs, .ref h0_from, .ref h0_kernelPoint, .ref h0_kernelOrder, .ref h0_marked, .ref h0_seen])), (h0_inverses, .inl (k_t_inverses, 10008, .inl u3)), (h0_roots, .inl (k_t_roots, 10008, .inl u4))]) (A)) (([.ref h0, .int a0] : List Value).toArray) s 0 0 A) (F0 m 101 ls [])) → ∀ (H : Heap) (locs : List Loc) (ls : Array Slot), va_P (dC, dI) vwCl [(h0, .inr (5, [.int a0, .int t_a, .int t_b, .ref h0_inverses, .ref h0_roots, .int a0, .ref h0_points, .int 0, .ref h0_ahead, .int t_curves, .ref h0_ps, .ref h0_as, .ref h0_bs, .ref h0_from, .ref h0_kernelPoint, .ref h0_kernelOrder, .ref h0_marked, .ref h0_seen])), (h0_inverses, .inl (k_t_inverses, 10008, .inl y9)), (h0_roots, .inl (k_t_roots, 10008, .inl x26))] H → va_D A [(h0, .inr (5, [.int a0, .int t_a, .int t_b, .ref h0_inverses, .ref h0_roots, .int a0, .ref h0_points, .int 0, .ref h0_ahead, .int t_curves, .ref h0_ps, .ref h0_as, .ref h0_bs, .ref h0_from, .ref h0_kernelPoint, .ref h0_kernelOrder, .ref h0_marked, .ref h0_seen])), (h0_inverses, .inl (k_t_inverses, 10008, .inl y9)), (h0_roots, .inl (k_t_roots, 10008, .inl x26))] → va_S A s.heap H locs → lv_has ls 3 [(2, .int x25), (0, .ref h0), (1, .int a0)] → W p l e (headSpec wsX6_takePrime rmX6_takePrime).room s m (([.ref h0, .int a0] : List Value).toArray) below meth c H locs 0 0 (MQ below (va_Qv (fun (u : Int32 × Int32 × Int32 × (Nat → Int32) × (Nat → Int32)) => u = rr) (fun (u : Int32 × Int32 × Int32 × (Nat → Int32) × (Nat → Int32)) t => match u with | (u0, u1, u2, u3, u4) => va_P (dC, dI) vwCl [(h0, .inr (5, [.int u0, .int t_a, .int t_b, .ref h0_inverses, .ref h0_roots, .int u1, .ref h0_points, .int u2, .ref h0_ahead, .int t_curves, .ref h0_ps, .ref h0_as, .ref h0_bs, .ref h0_from, .ref h0_kernelPoint, .ref h0_kernelOrder, .ref h0_marked, .ref h0_seen])), (h0_inverses, .inl (k_t_inverses, 10008, .inl u3)), (h0_roots, .inl (k_t_roots, 10008, .inl u4))] t.heap ∧ va_K (dC, dI) vwCl [(k_t_inverses, .int), (k_t_roots, .int)] t ∧ va_D (A) [(h0, .inr (5, [.int u0, .int t_a, .int t_b, .ref h0_inverses, .ref h0_roots, .int u1, .ref h0_points, .int u2, .ref h0_ahead, .int t_curves, .ref h0_ps, .ref h0_as, .ref h0_bs, .ref h0_from, .ref h0_kernelPoint, .ref h0_kernelOrder, .ref h0_marked, .ref h0_seen])), (h0_inverses, .inl (k_t_inverses, 10008, .inl u3)), (h0_roots, .inl (k_t_roots, 10008, .inl u4))]) (A)) (([.ref h0, .int a0] : List Value).toArray) s 0 0 A) (F0 m 83 ls []) := by
      intro n
      induction n with
      | zero => intro x25 x26 o h; exact absurd h (mi_run_0 _ _ _)
      | succ n ih =>
        intro x25 x26 o h hkE H locs ls hP hD hS hl
        obtain ⟨w, h, hA, hB⟩ := mi_run_s h
        dsimp only [mX6_takePrime_b83] at h
        refine lv_iload_n hx hb dX6_takePrime_83 rfl (lv_at hl 0 rfl) ?_
        refine lv_iload_n hx hb dX6_takePrime_84 rfl (lv_at hl 2 rfl) ?_
        refine lv_icmp_ge (tgt := 101) hx hb dX6_takePrime_85 (by decide) (fun c29 => ?_) (fun c29 => ?_)
        · replace h := (if_pos c29).symm.trans h
          exact hkE _ _ (hB _ (Option.some.inj h).symm) _ _ ls hP hD hS (lv_sub hl [0, 1, 2] rfl)
        · replace h := (if_neg c29).symm.trans h
          refine lv_aload_n hx hb dX6_takePrime_88 rfl (lv_at hl 1 rfl) ?_
          refine va_get (D := (dC, dI)) (ci := 5) (v := .ref h0_roots) (C := RX6) (T := TX6) (N := 18) hx hb hts (by decide +kernel) hown hK hP 0 rfl rfl 4 (by decide) (hts (.fieldLink RX6 13 "PointRingsModel" "roots" "[I") (by decide +kernel)) (fun _ h9 => h9) rfl dX6_takePrime_89 ?_
          refine lv_iload_n hx hb dX6_takePrime_92 rfl (lv_at hl 0 rfl) ?_
          refine lv_iconst (v := (-1)) hx hb dX6_takePrime_93 (by decide) ?_
          have hi30 : ¬ (x25 < 0 ∨ 10008 ≤ x25.toNatClampNeg) := fun hz => absurd ((if_pos hz).symm.trans h) (fun hh => nomatch hh)
          replace h := (if_neg hi30).symm.trans h
          refine va_iast hx hb hK hP hD hS 2 1 rfl rfl hi30 dX6_takePrime_94 (fun H locs hP hD hS => ?_)
          have hP : va_P (dC, dI) vwCl [(h0, .inr (5, [.int a0, .int t_a, .int t_b, .ref h0_inverses, .ref h0_roots, .int a0, .ref h0_points, .int 0, .ref h0_ahead, .int t_curves, .ref h0_ps, .ref h0_as, .ref h0_bs, .ref h0_from, .ref h0_kernelPoint, .ref h0_kernelOrder, .ref h0_marked, .ref h0_seen])), (h0_inverses, .inl (k_t_inverses, 10008, .inl y9)), (h0_roots, .inl (k_t_roots, 10008, .inl (upd x26 x25.toNatClampNeg (-1))))] H := hP
          have hD : va_D A [(h0, .inr (5, [.int a0, .int t_a, .int t_b, .ref h0_inverses, .ref h0_roots, .int a0, .ref h0_points, .int 0, .ref h0_ahead, .int t_curves, .ref h0_ps, .ref h0_as, .ref h0_bs, .ref h0_from, .ref h0_kernelPoint, .ref h0_kernelOrder, .ref h0_marked, .ref h0_seen])), (h0_inverses, .inl (k_t_inverses, 10008, .inl y9)), (h0_roots, .inl (k_t_roots, 10008, .inl (upd x26 x25.toNatClampNeg (-1))))] := hD
          obtain ⟨f31, ef31⟩ : ∃ z : Nat → Int32, z = upd x26 x25.toNatClampNeg (-1) := ⟨_, rfl⟩
          rw [← ef31] at hP hD
          replace h := mi_use ef31 h
          obtain ⟨v32, ev32⟩ : ∃ z : Int32, z = x25 + 1 := ⟨_, rfl⟩
          refine lv_iinc (v := v32) (lv' := [(2, .int v32), (0, .ref h0), (1, .int a0)]) hx hb dX6_takePrime_95 hl (k := 0) rfl (by rw [ev32]; rfl) (by decide) rfl (fun ls hl => ?_)
          replace h := mi_use ev32 h
          refine lv_goto (tgt := 83) hx hb dX6_takePrime_98 (by decide) ?_
          exact ih _ _ _ (hA _ (Option.some.inj h).symm) hkE _ _ ls hP hD hS (lv_sub hl [0, 1, 2] rfl)
    obtain ⟨o33, ho33, h⟩ := Option.bind_eq_some_iff.mp h
    refine L83 N _ _ o33 ho33 ?_ _ _ ls hP hD hS (lv_sub hl [0, 1, 2] rfl)
    intro y27 y28 eo H locs ls hP hD hS hl
    subst eo
    try dsimp only at h
    refine lv_iload_n hx hb dX6_takePrime_101 rfl (lv_at hl 2 rfl) ?_
    refine lv_iconst (v := 1) hx hb dX6_takePrime_102 (by decide) ?_
    refine lv_isub hx hb dX6_takePrime_103 ?_
    refine lv_topi (fun v34 ev34 => ?_)
    replace h := mi_use ev34 h
    refine lv_istore_n (lv' := [(2, .int v34), (0, .ref h0), (1, .int a0)]) hx hb dX6_takePrime_104 rfl hl (by decide) rfl (fun ls hl => ?_)
    have L105 : ∀ (n : Nat) (x35 : Int32) (x36 : Nat → Int32) (o : Int32 × (Nat → Int32)), mi_run (mX6_takePrime_b105 N a0) n (x35, x36) = some o → (∀ (y37 : Int32) (y38 : Nat → Int32), o = (y37, y38) → ∀ (H : Heap) (locs : List Loc) (ls : Array Slot), va_P (dC, dI) vwCl [(h0, .inr (5, [.int a0, .int t_a, .int t_b, .ref h0_inverses, .ref h0_roots, .int a0, .ref h0_points, .int 0, .ref h0_ahead, .int t_curves, .ref h0_ps, .ref h0_as, .ref h0_bs, .ref h0_from, .ref h0_kernelPoint, .ref h0_kernelOrder, .ref h0_marked, .ref h0_seen])), (h0_inverses, .inl (k_t_inverses, 10008, .inl y9)), (h0_roots, .inl (k_t_roots, 10008, .inl y38))] H → va_D A [(h0, .inr (5, [.int a0, .int t_a, .int t_b, .ref h0_inverses, .ref h0_roots, .int a0, .ref h0_points, .int 0, .ref h0_ahead, .int t_curves, .ref h0_ps, .ref h0_as, .ref h0_bs, .ref h0_from, .ref h0_kernelPoint, .ref h0_kernelOrder, .ref h0_marked, .ref h0_seen])), (h0_inverses, .inl (k_t_inverses, 10008, .inl y9)), (h0_roots, .inl (k_t_roots, 10008, .inl y38))] → va_S A s.heap H locs → lv_has ls 3 [(2, .int y37), (0, .ref h0), (1, .int a0)] → W p l e (headSpec wsX6_takePrime rmX6_takePrime).room s m (([.ref h0, .int a0] : List Value).toArray) below meth c H locs 0 0 (MQ below (va_Qv (fun (u : Int32 × Int32 × Int32 × (Nat → Int32) × (Nat → Int32)) => u = rr) (fun (u : Int32 × Int32 × Int32 × (Nat → Int32) × (Nat → Int32)) t => match u with | (u0, u1, u2, u3, u4) => va_P (dC, dI) vwCl [(h0, .inr (5, [.int u0, .int t_a, .int t_b, .ref h0_inverses, .ref h0_roots, .int u1, .ref h0_points, .int u2, .ref h0_ahead, .int t_curves, .ref h0_ps, .ref h0_as, .ref h0_bs, .ref h0_from, .ref h0_kernelPoint, .ref h0_kernelOrder, .ref h0_marked, .ref h0_seen])), (h0_inverses, .inl (k_t_inverses, 10008, .inl u3)), (h0_roots, .inl (k_t_roots, 10008, .inl u4))] t.heap ∧ va_K (dC, dI) vwCl [(k_t_inverses, .int), (k_t_roots, .int)] t ∧ va_D (A) [(h0, .inr (5, [.int u0, .int t_a, .int t_b, .ref h0_inverses, .ref h0_roots, .int u1, .ref h0_points, .int u2, .ref h0_ahead, .int t_curves, .ref h0_ps, .ref h0_as, .ref h0_bs, .ref h0_from, .ref h0_kernelPoint, .ref h0_kernelOrder, .ref h0_marked, .ref h0_seen])), (h0_inverses, .inl (k_t_inverses, 10008, .inl u3)), (h0_roots, .inl (k_t_roots, 10008, .inl u4))]) (A)) (([.ref h0, .int a0] : List Value).toArray) s 0 0 A) (F0 m 130 ls [])) → ∀ (H : Heap) (locs : List Loc) (ls : Array Slot), va_P (dC, dI) vwCl [(h0, .inr (5, [.int a0, .int t_a, .int t_b, .ref h0_inverses, .ref h0_roots, .int a0, .ref h0_points, .int 0, .ref h0_ahead, .int t_curves, .ref h0_ps, .ref h0_as, .ref h0_bs, .ref h0_from, .ref h0_kernelPoint, .ref h0_kernelOrder, .ref h0_marked, .ref h0_seen])), (h0_inverses, .inl (k_t_inverses, 10008, .inl y9)), (h0_roots, .inl (k_t_roots, 10008, .inl x36))] H → va_D A [(h0, .inr (5, [.int a0, .int t_a, .int t_b, .ref h0_inverses, .ref h0_roots, .int a0, .ref h0_points, .int 0, .ref h0_ahead, .int t_curves, .ref h0_ps, .ref h0_as, .ref h0_bs, .ref h0_from, .ref h0_kernelPoint, .ref h0_kernelOrder, .ref h0_marked, .ref h0_seen])), (h0_inverses, .inl (k_t_inverses, 10008, .inl y9)), (h0_roots, .inl (k_t_roots, 10008, .inl x36))] → va_S A s.heap H locs → lv_has ls 3 [(2, .int x35), (0, .ref h0), (1, .int a0)] → W p l e (headSpec wsX6_takePrime rmX6_takePrime).room s m (([.ref h0, .int a0] : List Value).toArray) below meth c H locs 0 0 (MQ below (va_Qv (fun (u : Int32 × Int32 × Int32 × (Nat → Int32) × (Nat → Int32)) => u = rr) (fun (u : Int32 × Int32 × Int32 × (Nat → Int32) × (Nat → Int32)) t => match u with | (u0, u1, u2, u3, u4) => va_P (dC, dI) vwCl [(h0, .inr (5, [.int u0, .int t_a, .int t_b, .ref h0_inverses, .ref h0_roots, .int u1, .ref h0_points, .int u2, .ref h0_ahead, .int t_curves, .ref h0_ps, .ref h0_as, .ref h0_bs, .ref h0_from, .ref h0_kernelPoint, .ref h0_kernelOrder, .ref h0_marked, .ref h0_seen])), (h0_inverses, .inl (k_t_inverses, 10008, .inl u3)), (h0_roots, .inl (k_t_roots, 10008, .inl u4))] t.heap ∧ va_K (dC, dI) vwCl [(k_t_inverses, .int), (k_t_roots, .int)] t ∧ va_D (A) [(h0, .inr (5, [.int u0, .int t_a, .int t_b, .ref h0_inverses, .ref h0_roots, .int u1, .ref h0_points, .int u2, .ref h0_ahead, .int t_curves, .ref h0_ps, .ref h0_as, .ref h0_bs, .ref h0_from, .ref h0_kernelPoint, .ref h0_kernelOrder, .ref h0_marked, .ref h0_seen])), (h0_inverses, .inl (k_t_inverses, 10008, .inl u3)), (h0_roots, .inl (k_t_roots, 10008, .inl u4))]) (A)) (([.ref h0, .int a0] : List Value).toArray) s 0 0 A) (F0 m 105 ls []) := by
      intro n
      induction n with
      | zero => intro x35 x36 o h; exact absurd h (mi_run_0 _ _ _)
      | succ n ih =>
        intro x35 x36 o h hkE H locs ls hP hD hS hl
        obtain ⟨w, h, hA, hB⟩ := mi_run_s h
        dsimp only [mX6_takePrime_b105] at h
        refine lv_iload_n hx hb dX6_takePrime_105 rfl (lv_at hl 0 rfl) ?_
        refine lv_if_lt (tgt := 130) hx hb dX6_takePrime_106 (by decide) (fun c39 => ?_) (fun c39 => ?_)
        · replace h := (if_pos c39).symm.trans h
          exact hkE _ _ (hB _ (Option.some.inj h).symm) _ _ ls hP hD hS (lv_sub hl [0, 1, 2] rfl)
        · replace h := (if_neg c39).symm.trans h
          refine lv_aload_n hx hb dX6_takePrime_109 rfl (lv_at hl 1 rfl) ?_
          refine va_get (D := (dC, dI)) (ci := 5) (v := .ref h0_roots) (C := RX6) (T := TX6) (N := 18) hx hb hts (by decide +kernel) hown hK hP 0 rfl rfl 4 (by decide) (hts (.fieldLink RX6 13 "PointRingsModel" "roots" "[I") (by decide +kernel)) (fun _ h9 => h9) rfl dX6_takePrime_110 ?_
          refine lv_iload_n hx hb dX6_takePrime_113 rfl (lv_at hl 0 rfl) ?_
          refine lv_i2l hx hb dX6_takePrime_114 rfl ?_
          refine lv_iload_n hx hb dX6_takePrime_115 rfl (lv_at hl 0 rfl) ?_
          refine lv_i2l hx hb dX6_takePrime_116 rfl ?_
          refine lv_lmul hx hb dX6_takePrime_117 ?_
          refine lv_iload_n hx hb dX6_takePrime_118 rfl (lv_at hl 2 rfl) ?_
          refine lv_i2l hx hb dX6_takePrime_119 rfl ?_
          have hn40 : ¬ a0.toInt64 = 0 := fun hz => absurd ((if_pos hz).symm.trans h) (fun hh => nomatch hh)
          replace h := (if_neg hn40).symm.trans h
          refine lv_lrem hx hb dX6_takePrime_120 hn40 ?_
          refine lv_topl (fun v41 ev41 => ?_)
          replace h := mi_use ev41 h
          refine lv_l2i hx hb dX6_takePrime_121 rfl ?_
          refine lv_iload_n hx hb dX6_takePrime_122 rfl (lv_at hl 0 rfl) ?_
          have hi42 : ¬ (v41.toInt32 < 0 ∨ 10008 ≤ v41.toInt32.toNatClampNeg) := fun hz => absurd ((if_pos hz).symm.trans h) (fun hh => nomatch hh)
          replace h := (if_neg hi42).symm.trans h
          refine va_iast hx hb hK hP hD hS 2 1 rfl rfl hi42 dX6_takePrime_123 (fun H locs hP hD hS => ?_)
          have hP : va_P (dC, dI) vwCl [(h0, .inr (5, [.int a0, .int t_a, .int t_b, .ref h0_inverses, .ref h0_roots, .int a0, .ref h0_points, .int 0, .ref h0_ahead, .int t_curves, .ref h0_ps, .ref h0_as, .ref h0_bs, .ref h0_from, .ref h0_kernelPoint, .ref h0_kernelOrder, .ref h0_marked, .ref h0_seen])), (h0_inverses, .inl (k_t_inverses, 10008, .inl y9)), (h0_roots, .inl (k_t_roots, 10008, .inl (upd x36 v41.toInt32.toNatClampNeg x35)))] H := hP
          have hD : va_D A [(h0, .inr (5, [.int a0, .int t_a, .int t_b, .ref h0_inverses, .ref h0_roots, .int a0, .ref h0_points, .int 0, .ref h0_ahead, .int t_curves, .ref h0_ps, .ref h0_as, .ref h0_bs, .ref h0_from, .ref h0_kernelPoint, .ref h0_kernelOrder, .ref h0_marked, .ref h0_seen])), (h0_inverses, .inl (k_t_inverses, 10008, .inl y9)), (h0_roots, .inl (k_t_roots, 10008, .inl (upd x36 v41.toInt32.toNatClampNeg x35)))] := hD
          obtain ⟨f43, ef43⟩ : ∃ z : Nat → Int32, z = upd x36 v41.toInt32.toNatClampNeg x35 := ⟨_, rfl⟩
          rw [← ef43] at hP hD
          replace h := mi_use ef43 h
          obtain ⟨v44, ev44⟩ : ∃ z : Int32, z = x35 + (-1) := ⟨_, rfl⟩
          refine lv_iinc (v := v44) (lv' := [(2, .int v44), (0, .ref h0), (1, .int a0)]) hx hb dX6_takePrime_124 hl (k := 0) rfl (by rw [ev44]; rfl) (by decide) rfl (fun ls hl => ?_)
          replace h := mi_use ev44 h
          refine lv_goto (tgt := 105) hx hb dX6_takePrime_127 (by decide) ?_
          exact ih _ _ _ (hA _ (Option.some.inj h).symm) hkE _ _ ls hP hD hS (lv_sub hl [0, 1, 2] rfl)
    obtain ⟨o45, ho45, h⟩ := Option.bind_eq_some_iff.mp h
    refine L105 N _ _ o45 ho45 ?_ _ _ ls hP hD hS (lv_sub hl [0, 1, 2] rfl)
    intro y37 y38 eo H locs ls hP hD hS hl
    subst eo
    try dsimp only at h
    have hv : (a0, a0, 0, y9, y38) = rr := Option.some.inj h
    have hP9 := hP.sub (ws' := [(h0, .inr (5, [.int a0, .int t_a, .int t_b, .ref h0_inverses, .ref h0_roots, .int a0, .ref h0_points, .int 0, .ref h0_ahead, .int t_curves, .ref h0_ps, .ref h0_as, .ref h0_bs, .ref h0_from, .ref h0_kernelPoint, .ref h0_kernelOrder, .ref h0_marked, .ref h0_seen])), (h0_inverses, .inl (k_t_inverses, 10008, .inl y9)), (h0_roots, .inl (k_t_roots, 10008, .inl y38))]) [0, 1, 2] rfl
    have hD9 := hD.sub (ws' := [(h0, .inr (5, [.int a0, .int t_a, .int t_b, .ref h0_inverses, .ref h0_roots, .int a0, .ref h0_points, .int 0, .ref h0_ahead, .int t_curves, .ref h0_ps, .ref h0_as, .ref h0_bs, .ref h0_from, .ref h0_kernelPoint, .ref h0_kernelOrder, .ref h0_marked, .ref h0_seen])), (h0_inverses, .inl (k_t_inverses, 10008, .inl y9)), (h0_roots, .inl (k_t_roots, 10008, .inl y38))]) [0, 1, 2] (by decide) rfl
    have hK9 := hK.sub (tys' := [(k_t_inverses, .int), (k_t_roots, .int)]) [0, 1] rfl
    exact W.vret hx hb hr (fun t ht hW => ⟨⟨(a0, a0, 0, y9, y38), rfl, hv, by rw [ht]; exact hP9, va_K.moved hW.alike hK9, hD9⟩, hS.F ht⟩) hS.2.2 dX6_takePrime_130
  · replace h := (if_pos c1).symm.trans h
    have hv : (a0, t_rooted, t_pointMany, t_inverses, t_roots) = rr := Option.some.inj h
    have hP9 := hP.sub (ws' := [(h0, .inr (5, [.int a0, .int t_a, .int t_b, .ref h0_inverses, .ref h0_roots, .int t_rooted, .ref h0_points, .int t_pointMany, .ref h0_ahead, .int t_curves, .ref h0_ps, .ref h0_as, .ref h0_bs, .ref h0_from, .ref h0_kernelPoint, .ref h0_kernelOrder, .ref h0_marked, .ref h0_seen])), (h0_inverses, .inl (k_t_inverses, 10008, .inl t_inverses)), (h0_roots, .inl (k_t_roots, 10008, .inl t_roots))]) [0, 1, 2] rfl
    have hD9 := hD.sub (ws' := [(h0, .inr (5, [.int a0, .int t_a, .int t_b, .ref h0_inverses, .ref h0_roots, .int t_rooted, .ref h0_points, .int t_pointMany, .ref h0_ahead, .int t_curves, .ref h0_ps, .ref h0_as, .ref h0_bs, .ref h0_from, .ref h0_kernelPoint, .ref h0_kernelOrder, .ref h0_marked, .ref h0_seen])), (h0_inverses, .inl (k_t_inverses, 10008, .inl t_inverses)), (h0_roots, .inl (k_t_roots, 10008, .inl t_roots))]) [0, 1, 2] (by decide) rfl
    have hK9 := hK.sub (tys' := [(k_t_inverses, .int), (k_t_roots, .int)]) [0, 1] rfl
    exact W.vret hx hb hr (fun t ht hW => ⟨⟨(a0, t_rooted, t_pointMany, t_inverses, t_roots), rfl, hv, by rw [ht]; exact hP9, va_K.moved hW.alike hK9, hD9⟩, hS.F ht⟩) hS.2.2 dX6_takePrime_13
