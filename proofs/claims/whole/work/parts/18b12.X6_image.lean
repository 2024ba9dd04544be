def mX6_image_b83 (N : Nat) (a0 : Int32) (t_kernelOrder : Nat → Int32) (a1 : Int32) (u9 : Int32) (u10 : Int32) (u11 : Int32) (u12 : Int32) (u13 : Int32) (f14 : Nat → Int32) (f15 : Nat → Int32) (t_kernelPoint : Nat → Int32) (st : Int64 × Int64 × Int32 × Int32) : Option ((Int64 × Int64 × Int32 × Int32) ⊕ ((Int64 × Int64 × Int32 × Int32) ⊕ (Int32 × Int32 × Int32 × Int32 × Int32 × Int32 × (Nat → Int32) × (Nat → Int32)))) :=
  match st with
  | (x27, x28, x29, x30) => if a0 < 0 ∨ 24 ≤ a0.toNatClampNeg then none else mi_let (t_kernelOrder a0.toNatClampNeg) (fun v36 => if v36 ≤ x30 then some (.inr (.inl (x27, x28, x29, x30))) else if x29 = a1 then some (.inr (.inr ((-1), u9, u10, u11, u12, u13, f14, f15))) else (mX6_sum N u9 u10 f14 a1 x29).bind (fun r39 => if r39 = (-1) then some (.inr (.inr ((-1), u9, u10, u11, u12, u13, f14, f15))) else mi_let (r39 / 16384) (fun v41 => mi_let (x29 / 16384) (fun v42 => mi_let (x27 + ((v41 - v42).toInt64)) (fun v43 => mi_let (mi_rem r39 16384) (fun v44 => mi_let (mi_rem x29 16384) (fun v45 => mi_let (x28 + ((v44 - v45).toInt64)) (fun v46 => if a0 < 0 ∨ 24 ≤ a0.toNatClampNeg then none else mi_let (t_kernelPoint a0.toNatClampNeg) (fun v48 => (mX6_sum N u9 u10 f14 x29 v48).bind (fun r49 => mi_let (x30 + 1) (fun v50 => some (.inl (v43, v46, r49, v50)))))))))))))
def mX6_image (N : Nat) (t_p : Int32) (t_a : Int32) (t_b : Int32) (t_rooted : Int32) (t_pointMany : Int32) (t_curves : Int32) (t_inverses : Nat → Int32) (t_roots : Nat → Int32) (t_ps : Nat → Int32) (t_as : Nat → Int32) (t_bs : Nat → Int32) (t_from : Nat → Int32) (t_kernelPoint : Nat → Int32) (t_kernelOrder : Nat → Int32) (a0 : Int32) (a1 : Int32) : Option (Int32 × Int32 × Int32 × Int32 × Int32 × Int32 × (Nat → Int32) × (Nat → Int32)) := (mX6_in N a0.toInt64 0 ((t_curves - 1).toInt64)).bind (fun r1 => if r1 = 0 then some ((-2), t_p, t_a, t_b, t_rooted, t_pointMany, t_inverses, t_roots) else if a0 < 0 ∨ 24 ≤ a0.toNatClampNeg then none else mi_let (t_from a0.toNatClampNeg) (fun v4 => if v4 = (-1) then some ((-2), t_p, t_a, t_b, t_rooted, t_pointMany, t_inverses, t_roots) else if a0 < 0 ∨ 24 ≤ a0.toNatClampNeg then none else mi_let (t_from a0.toNatClampNeg) (fun v7 => (mX6_has N t_p t_a t_b t_rooted t_pointMany t_curves t_inverses t_roots t_ps t_as t_bs v7).bind (fun r8 => match r8 with | (r16, u9, u10, u11, u12, u13, f14, f15) => if r16 = 0 then some ((-2), u9, u10, u11, u12, u13, f14, f15) else (mX6_isPoint N u9 u10 u11 a1).bind (fun r18 => if r18 = 0 then some ((-2), u9, u10, u11, u12, u13, f14, f15) else if a1 = (-1) then some (a1, u9, u10, u11, u12, u13, f14, f15) else mi_let (a1 / 16384) (fun v21 => mi_let (v21.toInt64) (fun v22 => mi_let (mi_rem a1 16384) (fun v23 => mi_let (v23.toInt64) (fun v24 => if a0 < 0 ∨ 24 ≤ a0.toNatClampNeg then none else mi_let (t_kernelPoint a0.toNatClampNeg) (fun v26 => (mi_run (mX6_image_b83 N a0 t_kernelOrder a1 u9 u10 u11 u12 u13 f14 f15 t_kernelPoint) N (v22, v24, v26, 1)).bind (fun o51 => match o51 with | .inl (y31, y32, y33, y34) => (mX6_mod N u9 y31).bind (fun r52 => (mX6_mod N u9 y32).bind (fun r53 => some ((16384 * r52) + r53, u9, u10, u11, u12, u13, f14, f15))) | .inr r54 => some r54)))))))))))
abbrev rmX6_image : Room := { frames := 3, cells := 0, slots := 0, locals := 66 }
set_option maxHeartbeats 4000000 in
set_option maxRecDepth 100000 in
theorem ctX6_image (l : Launch) (N : Nat) (dC : Nat → ClassId) (dI : Nat → Nat → Nat) (sz : Nat) (h0 : Nat) (h0_inverses : Nat) (h0_roots : Nat) (h0_ps : Nat) (h0_as : Nat) (h0_bs : Nat) (h0_from : Nat) (h0_kernelPoint : Nat) (h0_kernelOrder : Nat) (h0_points : Nat) (h0_ahead : Nat) (h0_marked : Nat) (h0_seen : Nat) (k_t_inverses : ClassId) (k_t_roots : ClassId) (k_t_ps : ClassId) (k_t_as : ClassId) (k_t_bs : ClassId) (k_t_from : ClassId) (k_t_kernelPoint : ClassId) (k_t_kernelOrder : ClassId) (t_p : Int32) (t_a : Int32) (t_b : Int32) (t_rooted : Int32) (t_pointMany : Int32) (t_curves : Int32) (t_inverses : Nat → Int32) (t_roots : Nat → Int32) (t_ps : Nat → Int32) (t_as : Nat → Int32) (t_bs : Nat → Int32) (t_from : Nat → Int32) (t_kernelPoint : Nat → Int32) (t_kernelOrder : Nat → Int32) (a0 : Int32) (a1 : Int32) (rr : Int32 × Int32 × Int32 × Int32 × Int32 × Int32 × (Nat → Int32) × (Nat → Int32)) (h : mX6_image N t_p t_a t_b t_rooted t_pointMany t_curves t_inverses t_roots t_ps t_as t_bs t_from t_kernelPoint t_kernelOrder a0 a1 = some rr) : Met l yX6_image wsX6_image rmX6_image (va_Pc [.ref h0, .int a0, .int a1] (fun U => U.heap.size = sz ∧ va_P (dC, dI) vwCl [(h0, .inr (5, [.int t_p, .int t_a, .int t_b, .ref h0_inverses, .ref h0_roots, .int t_rooted, .ref h0_points, .int t_pointMany, .ref h0_ahead, .int t_curves, .ref h0_ps, .ref h0_as, .ref h0_bs, .ref h0_from, .ref h0_kernelPoint, .ref h0_kernelOrder, .ref h0_marked, .ref h0_seen])), (h0_inverses, .inl (k_t_inverses, 10008, .inl t_inverses)), (h0_roots, .inl (k_t_roots, 10008, .inl t_roots)), (h0_ps, .inl (k_t_ps, 24, .inl t_ps)), (h0_as, .inl (k_t_as, 24, .inl t_as)), (h0_bs, .inl (k_t_bs, 24, .inl t_bs)), (h0_from, .inl (k_t_from, 24, .inl t_from)), (h0_kernelPoint, .inl (k_t_kernelPoint, 24, .inl t_kernelPoint)), (h0_kernelOrder, .inl (k_t_kernelOrder, 24, .inl t_kernelOrder))] U.heap ∧ va_K (dC, dI) vwCl [(k_t_inverses, .int), (k_t_roots, .int), (k_t_ps, .int), (k_t_as, .int), (k_t_bs, .int), (k_t_from, .int), (k_t_kernelPoint, .int), (k_t_kernelOrder, .int)] U ∧ nw_all U ∧ va_D (fun _ => True) [(h0, .inr (5, [.int t_p, .int t_a, .int t_b, .ref h0_inverses, .ref h0_roots, .int t_rooted, .ref h0_points, .int t_pointMany, .ref h0_ahead, .int t_curves, .ref h0_ps, .ref h0_as, .ref h0_bs, .ref h0_from, .ref h0_kernelPoint, .ref h0_kernelOrder, .ref h0_marked, .ref h0_seen])), (h0_inverses, .inl (k_t_inverses, 10008, .inl t_inverses)), (h0_roots, .inl (k_t_roots, 10008, .inl t_roots)), (h0_ps, .inl (k_t_ps, 24, .inl t_ps)), (h0_as, .inl (k_t_as, 24, .inl t_as)), (h0_bs, .inl (k_t_bs, 24, .inl t_bs)), (h0_from, .inl (k_t_from, 24, .inl t_from)), (h0_kernelPoint, .inl (k_t_kernelPoint, 24, .inl t_kernelPoint)), (h0_kernelOrder, .inl (k_t_kernelOrder, 24, .inl t_kernelOrder))])) (va_Qi (fun (r : Int32) (u : Int32 × Int32 × Int32 × Int32 × Int32 × (Nat → Int32) × (Nat → Int32)) => (r, u) = rr) (fun (u : Int32 × Int32 × Int32 × Int32 × Int32 × (Nat → Int32) × (Nat → Int32)) t => match u with | (u0, u1, u2, u3, u4, u5, u6) => va_P (dC, dI) vwCl [(h0, .inr (5, [.int u0, .int u1, .int u2, .ref h0_inverses, .ref h0_roots, .int u3, .ref h0_points, .int u4, .ref h0_ahead, .int t_curves, .ref h0_ps, .ref h0_as, .ref h0_bs, .ref h0_from, .ref h0_kernelPoint, .ref h0_kernelOrder, .ref h0_marked, .ref h0_seen])), (h0_inverses, .inl (k_t_inverses, 10008, .inl u5)), (h0_roots, .inl (k_t_roots, 10008, .inl u6)), (h0_ps, .inl (k_t_ps, 24, .inl t_ps)), (h0_as, .inl (k_t_as, 24, .inl t_as)), (h0_bs, .inl (k_t_bs, 24, .inl t_bs)), (h0_from, .inl (k_t_from, 24, .inl t_from)), (h0_kernelPoint, .inl (k_t_kernelPoint, 24, .inl t_kernelPoint)), (h0_kernelOrder, .inl (k_t_kernelOrder, 24, .inl t_kernelOrder))] t.heap ∧ va_K (dC, dI) vwCl [(k_t_inverses, .int), (k_t_roots, .int), (k_t_ps, .int), (k_t_as, .int), (k_t_bs, .int), (k_t_from, .int), (k_t_kernelPoint, .int), (k_t_kernelOrder, .int)] t ∧ va_D (va_A [(h0, .inr (5, [.int t_p, .int t_a, .int t_b, .ref h0_inverses, .ref h0_roots, .int t_rooted, .ref h0_points, .int t_pointMany, .ref h0_ahead, .int t_curves, .ref h0_ps, .ref h0_as, .ref h0_bs, .ref h0_from, .ref h0_kernelPoint, .ref h0_kernelOrder, .ref h0_marked, .ref h0_seen])), (h0_inverses, .inl (k_t_inverses, 10008, .inl t_inverses)), (h0_roots, .inl (k_t_roots, 10008, .inl t_roots)), (h0_ps, .inl (k_t_ps, 24, .inl t_ps)), (h0_as, .inl (k_t_as, 24, .inl t_as)), (h0_bs, .inl (k_t_bs, 24, .inl t_bs)), (h0_from, .inl (k_t_from, 24, .inl t_from)), (h0_kernelPoint, .inl (k_t_kernelPoint, 24, .inl t_kernelPoint)), (h0_kernelOrder, .inl (k_t_kernelOrder, 24, .inl t_kernelOrder))] sz) [(h0, .inr (5, [.int u0, .int u1, .int u2, .ref h0_inverses, .ref h0_roots, .int u3, .ref h0_points, .int u4, .ref h0_ahead, .int t_curves, .ref h0_ps, .ref h0_as, .ref h0_bs, .ref h0_from, .ref h0_kernelPoint, .ref h0_kernelOrder, .ref h0_marked, .ref h0_seen])), (h0_inverses, .inl (k_t_inverses, 10008, .inl u5)), (h0_roots, .inl (k_t_roots, 10008, .inl u6)), (h0_ps, .inl (k_t_ps, 24, .inl t_ps)), (h0_as, .inl (k_t_as, 24, .inl t_as)), (h0_bs, .inl (k_t_bs, 24, .inl t_bs)), (h0_from, .inl (k_t_from, 24, .inl t_from)), (h0_kernelPoint, .inl (k_t_kernelPoint, 24, .inl t_kernelPoint)), (h0_kernelOrder, .inl (k_t_kernelOrder, 24, .inl t_kernelOrder))]) (va_A [(h0, .inr (5, [.int t_p, .int t_a, .int t_b, .ref h0_inverses, .ref h0_roots, .int t_rooted, .ref h0_points, .int t_pointMany, .ref h0_ahead, .int t_curves, .ref h0_ps, .ref h0_as, .ref h0_bs, .ref h0_from, .ref h0_kernelPoint, .ref h0_kernelOrder, .ref h0_marked, .ref h0_seen])), (h0_inverses, .inl (k_t_inverses, 10008, .inl t_inverses)), (h0_roots, .inl (k_t_roots, 10008, .inl t_roots)), (h0_ps, .inl (k_t_ps, 24, .inl t_ps)), (h0_as, .inl (k_t_as, 24, .inl t_as)), (h0_bs, .inl (k_t_bs, 24, .inl t_bs)), (h0_from, .inl (k_t_from, 24, .inl t_from)), (h0_kernelPoint, .inl (k_t_kernelPoint, 24, .inl t_kernelPoint)), (h0_kernelOrder, .inl (k_t_kernelOrder, 24, .inl t_kernelOrder))] sz)) 0 0 (va_A [(h0, .inr (5, [.int t_p, .int t_a, .int t_b, .ref h0_inverses, .ref h0_roots, .int t_rooted, .ref h0_points, .int t_pointMany, .ref h0_ahead, .int t_curves, .ref h0_ps, .ref h0_as, .ref h0_bs, .ref h0_from, .ref h0_kernelPoint, .ref h0_kernelOrder, .ref h0_marked, .ref h0_seen])), (h0_inverses, .inl (k_t_inverses, 10008, .inl t_inverses)), (h0_roots, .inl (k_t_roots, 10008, .inl t_roots)), (h0_ps, .inl (k_t_ps, 24, .inl t_ps)), (h0_as, .inl (k_t_as, 24, .inl t_as)), (h0_bs, .inl (k_t_bs, 24, .inl t_bs)), (h0_from, .inl (k_t_from, 24, .inl t_from)), (h0_kernelPoint, .inl (k_t_kernelPoint, 24, .inl t_kernelPoint)), (h0_kernelOrder, .inl (k_t_kernelOrder, 24, .inl t_kernelOrder))] sz) := by
  refine Met.ofW (cc := cX6_image) (maxL := 10) (ret := (some .int)) (by decide) rfl ?_
  intro p e s m args below meth c s₁ B hml hv
  obtain ⟨rfl, hsz, hP, hK, hN, hD0⟩ := hv
  have hx := B.exec
  have hb := B.bytes
  have hr := B.returns
  have hts := atoms_spec (ws := wsX6_image) B.pre
  have hown : s.vm.findClass RX6 = some m.cls := findClass_of_methodNamed B.named
  have hlocks := B.notSynchronized
  subst hsz
  have hD := hD0.self (sz := s.heap.size)
  generalize hAe : va_A [(h0, .inr (5, [.int t_p, .int t_a, .int t_b, .ref h0_inverses, .ref h0_roots, .int t_rooted, .ref h0_points, .int t_pointMany, .ref h0_ahead, .int t_curves, .ref h0_ps, .ref h0_as, .ref h0_bs, .ref h0_from, .ref h0_kernelPoint, .ref h0_kernelOrder, .ref h0_marked, .ref h0_seen])), (h0_inverses, .inl (k_t_inverses, 10008, .inl t_inverses)), (h0_roots, .inl (k_t_roots, 10008, .inl t_roots)), (h0_ps, .inl (k_t_ps, 24, .inl t_ps)), (h0_as, .inl (k_t_as, 24, .inl t_as)), (h0_bs, .inl (k_t_bs, 24, .inl t_bs)), (h0_from, .inl (k_t_from, 24, .inl t_from)), (h0_kernelPoint, .inl (k_t_kernelPoint, 24, .inl t_kernelPoint)), (h0_kernelOrder, .inl (k_t_kernelOrder, 24, .inl t_kernelOrder))] s.heap.size = A at hD ⊢
  have hA0 : ∀ q : Nat, s.heap.size ≤ q → A q := fun q h => by rw [← hAe]; exact Or.inr h
  have hS : va_S A s.heap s.heap [] := va_S.rf
  have hP : va_P (dC, dI) vwCl [(h0, .inr (5, [.int t_p, .int t_a, .int t_b, .ref h0_inverses, .ref h0_roots, .int t_rooted, .ref h0_points, .int t_pointMany, .ref h0_ahead, .int t_curves, .ref h0_ps, .ref h0_as, .ref h0_bs, .ref h0_from, .ref h0_kernelPoint, .ref h0_kernelOrder, .ref h0_marked, .ref h0_seen])), (h0_inverses, .inl (k_t_inverses, 10008, .inl t_inverses)), (h0_roots, .inl (k_t_roots, 10008, .inl t_roots)), (h0_ps, .inl (k_t_ps, 24, .inl t_ps)), (h0_as, .inl (k_t_as, 24, .inl t_as)), (h0_bs, .inl (k_t_bs, 24, .inl t_bs)), (h0_from, .inl (k_t_from, 24, .inl t_from)), (h0_kernelPoint, .inl (k_t_kernelPoint, 24, .inl t_kernelPoint)), (h0_kernelOrder, .inl (k_t_kernelOrder, 24, .inl t_kernelOrder))] s.heap := hP
  have hl := lv_entry ([.ref h0, .int a0, .int a1]) (n := 10) (Nat.le_of_ble_eq_true rfl)
  rw [lg_entry_eq]
  generalize (lg_sl ([.ref h0, .int a0, .int a1]) ++ List.replicate (10 - (lg_sl ([.ref h0, .int a0, .int a1])).length) Slot.unset).toArray = ls at hl ⊢
  have hl : lv_has ls 10 [(0, .ref h0), (1, .int a0), (2, .int a1)] := hl
  dsimp only [mX6_image] at h
  refine lv_iload_n hx hb dX6_image_0 rfl (lv_at hl 1 rfl) ?_
  refine lv_i2l hx hb dX6_image_1 rfl ?_
  refine lv_lconst (v := 0) hx hb dX6_image_2 (by decide) ?_
  refine lv_aload_n hx hb dX6_image_3 rfl (lv_at hl 0 rfl) ?_
  refine va_get (D := (dC, dI)) (ci := 5) (v := .int t_curves) (C := RX6) (T := TX6) (N := 18) hx hb hts (by decide +kernel) hown hK hP 0 rfl rfl 9 (by decide) (hts (.fieldLink RX6 112 "PointRingsModel" "curves" "I") (by decide +kernel)) (fun _ h9 => h9) rfl dX6_image_4 ?_
  refine lv_iconst (v := 1) hx hb dX6_image_7 (by decide) ?_
  refine lv_isub hx hb dX6_image_8 ?_
  refine lv_i2l hx hb dX6_image_9 rfl ?_
  obtain ⟨r1, hr1, h⟩ := Option.bind_eq_some_iff.mp h
  refine vp_callSi (W.runS (As := [.long a0.toInt64, .long 0, .long ((t_curves - 1).toInt64)]) (rest := []) ⟨hx, hb, hml, hown, hts⟩ (ctX6_in l N  a0.toInt64 0 ((t_curves - 1).toInt64) r1 hr1) (va_cwS 3 hts gX6_image_X6_in rfl rfl rfl (by decide +kernel) ⟨Nat.le_of_ble_eq_true rfl, Nat.le_of_ble_eq_true rfl⟩) preEq rfl rfl hl.1 rfl (lv_room (Nat.le_of_ble_eq_true rfl)) dX6_image_10 ⟨Nat.le_of_ble_eq_true rfl, Nat.le_of_ble_eq_true rfl⟩) (fun q9 eq9 => ?_)
  subst q9
  refine lv_if_eq (tgt := 47) hx hb dX6_image_13 (by decide) (fun c2 => ?_) (fun c2 => ?_)
  · replace h := (if_pos c2).symm.trans h
    refine lv_bipush (v := (-2)) hx hb dX6_image_47 (by decide) ?_
    have hv : ((-2), t_p, t_a, t_b, t_rooted, t_pointMany, t_inverses, t_roots) = rr := Option.some.inj h
    have hP9 := hP.sub (ws' := [(h0, .inr (5, [.int t_p, .int t_a, .int t_b, .ref h0_inverses, .ref h0_roots, .int t_rooted, .ref h0_points, .int t_pointMany, .ref h0_ahead, .int t_curves, .ref h0_ps, .ref h0_as, .ref h0_bs, .ref h0_from, .ref h0_kernelPoint, .ref h0_kernelOrder, .ref h0_marked, .ref h0_seen])), (h0_inverses, .inl (k_t_inverses, 10008, .inl t_inverses)), (h0_roots, .inl (k_t_roots, 10008, .inl t_roots)), (h0_ps, .inl (k_t_ps, 24, .inl t_ps)), (h0_as, .inl (k_t_as, 24, .inl t_as)), (h0_bs, .inl (k_t_bs, 24, .inl t_bs)), (h0_from, .inl (k_t_from, 24, .inl t_from)), (h0_kernelPoint, .inl (k_t_kernelPoint, 24, .inl t_kernelPoint)), (h0_kernelOrder, .inl (k_t_kernelOrder, 24, .inl t_kernelOrder))]) [0, 1, 2, 3, 4, 5, 6, 7, 8] rfl
    have hD9 := hD.sub (ws' := [(h0, .inr (5, [.int t_p, .int t_a, .int t_b, .ref h0_inverses, .ref h0_roots, .int t_rooted, .ref h0_points, .int t_pointMany, .ref h0_ahead, .int t_curves, .ref h0_ps, .ref h0_as, .ref h0_bs, .ref h0_from, .ref h0_kernelPoint, .ref h0_kernelOrder, .ref h0_marked, .ref h0_seen])), (h0_inverses, .inl (k_t_inverses, 10008, .inl t_inverses)), (h0_roots, .inl (k_t_roots, 10008, .inl t_roots)), (h0_ps, .inl (k_t_ps, 24, .inl t_ps)), (h0_as, .inl (k_t_as, 24, .inl t_as)), (h0_bs, .inl (k_t_bs, 24, .inl t_bs)), (h0_from, .inl (k_t_from, 24, .inl t_from)), (h0_kernelPoint, .inl (k_t_kernelPoint, 24, .inl t_kernelPoint)), (h0_kernelOrder, .inl (k_t_kernelOrder, 24, .inl t_kernelOrder))]) [0, 1, 2, 3, 4, 5, 6, 7, 8] (by decide) rfl
    have hK9 := hK.sub (tys' := [(k_t_inverses, .int), (k_t_roots, .int), (k_t_ps, .int), (k_t_as, .int), (k_t_bs, .int), (k_t_from, .int), (k_t_kernelPoint, .int), (k_t_kernelOrder, .int)]) [0, 1, 2, 3, 4, 5, 6, 7] rfl
    exact W.iret (v := (-2)) hx hb hr (fun t ht hW => ⟨⟨(-2), (t_p, t_a, t_b, t_rooted, t_pointMany, t_inverses, t_roots), rfl, hv, by rw [ht]; exact hP9, va_K.moved hW.alike hK9, hD9⟩, hS.F ht⟩) hS.2.2 dX6_image_49
  · replace h := (if_neg c2).symm.trans h
    refine lv_aload_n hx hb dX6_image_16 rfl (lv_at hl 0 rfl) ?_
    refine va_get (D := (dC, dI)) (ci := 5) (v := .ref h0_from) (C := RX6) (T := TX6) (N := 18) hx hb hts (by decide +kernel) hown hK hP 0 rfl rfl 13 (by decide) (hts (.fieldLink RX6 31 "PointRingsModel" "from" "[I") (by decide +kernel)) (fun _ h9 => h9) rfl dX6_image_17 ?_
    refine lv_iload_n hx hb dX6_image_20 rfl (lv_at hl 1 rfl) ?_
    have hi3 : ¬ (a0 < 0 ∨ 24 ≤ a0.toNatClampNeg) := fun hz => absurd ((if_pos hz).symm.trans h) (fun hh => nomatch hh)
    replace h := (if_neg hi3).symm.trans h
    refine va_iald hx hb hK hP 6 5 rfl rfl hi3 dX6_image_21 ?_
    refine lv_topi (fun v4 ev4 => ?_)
    replace h := mi_use ev4 h
    refine lv_iconst (v := (-1)) hx hb dX6_image_22 (by decide) ?_
    refine lv_icmp_eq (tgt := 47) hx hb dX6_image_23 (by decide) (fun c5 => ?_) (fun c5 => ?_)
    · replace h := (if_pos c5).symm.trans h
      refine lv_bipush (v := (-2)) hx hb dX6_image_47 (by decide) ?_
      have hv : ((-2), t_p, t_a, t_b, t_rooted, t_pointMany, t_inverses, t_roots) = rr := Option.some.inj h
      have hP9 := hP.sub (ws' := [(h0, .inr (5, [.int t_p, .int t_a, .int t_b, .ref h0_inverses, .ref h0_roots, .int t_rooted, .ref h0_points, .int t_pointMany, .ref h0_ahead, .int t_curves, .ref h0_ps, .ref h0_as, .ref h0_bs, .ref h0_from, .ref h0_kernelPoint, .ref h0_kernelOrder, .ref h0_marked, .ref h0_seen])), (h0_inverses, .inl (k_t_inverses, 10008, .inl t_inverses)), (h0_roots, .inl (k_t_roots, 10008, .inl t_roots)), (h0_ps, .inl (k_t_ps, 24, .inl t_ps)), (h0_as, .inl (k_t_as, 24, .inl t_as)), (h0_bs, .inl (k_t_bs, 24, .inl t_bs)), (h0_from, .inl (k_t_from, 24, .inl t_from)), (h0_kernelPoint, .inl (k_t_kernelPoint, 24, .inl t_kernelPoint)), (h0_kernelOrder, .inl (k_t_kernelOrder, 24, .inl t_kernelOrder))]) [0, 1, 2, 3, 4, 5, 6, 7, 8] rfl
      have hD9 := hD.sub (ws' := [(h0, .inr (5, [.int t_p, .int t_a, .int t_b, .ref h0_inverses, .ref h0_roots, .int t_rooted, .ref h0_points, .int t_pointMany, .ref h0_ahead, .int t_curves, .ref h0_ps, .ref h0_as, .ref h0_bs, .ref h0_from, .ref h0_kernelPoint, .ref h0_kernelOrder, .ref h0_marked, .ref h0_seen])), (h0_inverses, .inl (k_t_inverses, 10008, .inl t_inverses)), (h0_roots, .inl (k_t_roots, 10008, .inl t_roots)), (h0_ps, .inl (k_t_ps, 24, .inl t_ps)), (h0_as, .inl (k_t_as, 24, .inl t_as)), (h0_bs, .inl (k_t_bs, 24, .inl t_bs)), (h0_from, .inl (k_t_from, 24, .inl t_from)), (h0_kernelPoint, .inl (k_t_kernelPoint, 24, .inl t_kernelPoint)), (h0_kernelOrder, .inl (k_t_kernelOrder, 24, .inl t_kernelOrder))]) [0, 1, 2, 3, 4, 5, 6, 7, 8] (by decide) rfl
      have hK9 := hK.sub (tys' := [(k_t_inverses, .int), (k_t_roots, .int), (k_t_ps, .int), (k_t_as, .int), (k_t_bs, .int), (k_t_from, .int), (k_t_kernelPoint, .int), (k_t_kernelOrder, .int)]) [0, 1, 2, 3, 4, 5, 6, 7] rfl
      exact W.iret (v := (-2)) hx hb hr (fun t ht hW => ⟨⟨(-2), (t_p, t_a, t_b, t_rooted, t_pointMany, t_inverses, t_roots), rfl, hv, by rw [ht]; exact hP9, va_K.moved hW.alike hK9, hD9⟩, hS.F ht⟩) hS.2.2 dX6_image_49
    · replace h := (if_neg c5).symm.trans h
      refine lv_aload_n hx hb dX6_image_26 rfl (lv_at hl 0 rfl) ?_
      refine lv_aload_n hx hb dX6_image_27 rfl (lv_at hl 0 rfl) ?_
      refine va_get (D := (dC, dI)) (ci := 5) (v := .ref h0_from) (C := RX6) (T := TX6) (N := 18) hx hb hts (by decide +kernel) hown hK hP 0 rfl rfl 13 (by decide) (hts (.fieldLink RX6 31 "PointRingsModel" "from" "[I") (by decide +kernel)) (fun _ h9 => h9) rfl dX6_image_28 ?_
      refine lv_iload_n hx hb dX6_image_31 rfl (lv_at hl 1 rfl) ?_
      have hi6 : ¬ (a0 < 0 ∨ 24 ≤ a0.toNatClampNeg) := fun hz => absurd ((if_pos hz).symm.trans h) (fun hh => nomatch hh)
      replace h := (if_neg hi6).symm.trans h
      refine va_iald hx hb hK hP 6 5 rfl rfl hi6 dX6_image_32 ?_
      refine lv_topi (fun v7 ev7 => ?_)
      replace h := mi_use ev7 h
      obtain ⟨r8, hr8, h⟩ := Option.bind_eq_some_iff.mp h
      have hPc := hP.sub (ws' := [(h0, .inr (5, [.int t_p, .int t_a, .int t_b, .ref h0_inverses, .ref h0_roots, .int t_rooted, .ref h0_points, .int t_pointMany, .ref h0_ahead, .int t_curves, .ref h0_ps, .ref h0_as, .ref h0_bs, .ref h0_from, .ref h0_kernelPoint, .ref h0_kernelOrder, .ref h0_marked, .ref h0_seen])), (h0_inverses, .inl (k_t_inverses, 10008, .inl t_inverses)), (h0_roots, .inl (k_t_roots, 10008, .inl t_roots)), (h0_ps, .inl (k_t_ps, 24, .inl t_ps)), (h0_as, .inl (k_t_as, 24, .inl t_as)), (h0_bs, .inl (k_t_bs, 24, .inl t_bs))]) [0, 1, 2, 3, 4, 5] rfl
      have hDc := hD.sub (ws' := [(h0, .inr (5, [.int t_p, .int t_a, .int t_b, .ref h0_inverses, .ref h0_roots, .int t_rooted, .ref h0_points, .int t_pointMany, .ref h0_ahead, .int t_curves, .ref h0_ps, .ref h0_as, .ref h0_bs, .ref h0_from, .ref h0_kernelPoint, .ref h0_kernelOrder, .ref h0_marked, .ref h0_seen])), (h0_inverses, .inl (k_t_inverses, 10008, .inl t_inverses)), (h0_roots, .inl (k_t_roots, 10008, .inl t_roots)), (h0_ps, .inl (k_t_ps, 24, .inl t_ps)), (h0_as, .inl (k_t_as, 24, .inl t_as)), (h0_bs, .inl (k_t_bs, 24, .inl t_bs))]) [0, 1, 2, 3, 4, 5] (by decide) rfl
      have hKc := hK.sub (tys' := [(k_t_inverses, .int), (k_t_roots, .int), (k_t_ps, .int), (k_t_as, .int), (k_t_bs, .int)]) [0, 1, 2, 3, 4] rfl
      have hFc := va_free (wc := [(h0, .inr (5, [.int t_p, .int t_a, .int t_b, .ref h0_inverses, .ref h0_roots, .int t_rooted, .ref h0_points, .int t_pointMany, .ref h0_ahead, .int t_curves, .ref h0_ps, .ref h0_as, .ref h0_bs, .ref h0_from, .ref h0_kernelPoint, .ref h0_kernelOrder, .ref h0_marked, .ref h0_seen])), (h0_inverses, .inl (k_t_inverses, 10008, .inl t_inverses)), (h0_roots, .inl (k_t_roots, 10008, .inl t_roots)), (h0_ps, .inl (k_t_ps, 24, .inl t_ps)), (h0_as, .inl (k_t_as, 24, .inl t_as)), (h0_bs, .inl (k_t_bs, 24, .inl t_bs))]) hD hS hA0 [0, 1, 2, 3, 4, 5] rfl
      refine va_calli (va_runV (As := [.int v7]) (rest := []) ⟨hx, hb, hml, hown, hts⟩ (ctX6_has l N dC dI _ h0 h0_inverses h0_roots h0_ps h0_as h0_bs h0_points h0_ahead h0_from h0_kernelPoint h0_kernelOrder h0_marked h0_seen k_t_inverses k_t_roots k_t_ps k_t_as k_t_bs t_p t_a t_b t_rooted t_pointMany t_curves t_inverses t_roots t_ps t_as t_bs v7 r8 hr8) (cwV 1 hts gX6_image_X6_has rfl rfl rfl (by decide +kernel) ⟨Nat.le_of_ble_eq_true rfl, Nat.le_of_ble_eq_true rfl⟩) ⟨fun a U g mk q => by obtain ⟨q0, q1, qP, qK, qN, qD⟩ := q; exact ⟨q0, q1, qP, va_K.moved (u := U) (U := U.calling g mk a) (Vm.Alike.refl U.vm) qK, nw_same (u := U) (U := U.calling g mk a) rfl qN, qD⟩, va_recv hKc hPc (ci := 5) (q0 := 0) rfl rfl, fun U hU hW => ⟨rfl, by rw [hU], by rw [hU]; exact hPc, va_K.moved hW.alike hKc, nw_warm hW hN, hDc.weaken (fun _ _ _ _ => trivial)⟩⟩ rfl rfl hl.1 rfl (lv_room (Nat.le_of_ble_eq_true rfl)) dX6_image_33 ⟨Nat.le_of_ble_eq_true rfl, Nat.le_of_ble_eq_true rfl⟩) hS (fun q _ h => hFc q h) hFc (fun rz u t H1 locs ht hvm hw hB1 hz1 hk1 hS => ?_)
      obtain ⟨u9, u10, u11, u12, u13, f14, f15⟩ := u
      obtain ⟨hP1, hK1, hD1⟩ := hB1
      rw [ht] at hP1
      have hK1 := va_K.moved hvm.symm hK1
      obtain ⟨r16, rfl⟩ : ∃ z, z = rz := ⟨_, rfl⟩
      subst hw
      try dsimp only at h
      obtain ⟨hP, hD⟩ := va_join (wr := [(h0_from, .inl (k_t_from, 24, .inl t_from)), (h0_kernelPoint, .inl (k_t_kernelPoint, 24, .inl t_kernelPoint)), (h0_kernelOrder, .inl (k_t_kernelOrder, 24, .inl t_kernelOrder))]) (w1 := [(h0, .inr (5, [.int u9, .int u10, .int u11, .ref h0_inverses, .ref h0_roots, .int u12, .ref h0_points, .int u13, .ref h0_ahead, .int t_curves, .ref h0_ps, .ref h0_as, .ref h0_bs, .ref h0_from, .ref h0_kernelPoint, .ref h0_kernelOrder, .ref h0_marked, .ref h0_seen])), (h0_inverses, .inl (k_t_inverses, 10008, .inl f14)), (h0_roots, .inl (k_t_roots, 10008, .inl f15)), (h0_ps, .inl (k_t_ps, 24, .inl t_ps)), (h0_as, .inl (k_t_as, 24, .inl t_as)), (h0_bs, .inl (k_t_bs, 24, .inl t_bs))]) hP hD [0, 1, 2, 3, 4, 5] [6, 7, 8] rfl rfl (by decide) (by decide) hk1 hFc hP1 hD1
      generalize H1 = H at hP hS ⊢
      have hP := hP.sub (ws' := [(h0, .inr (5, [.int u9, .int u10, .int u11, .ref h0_inverses, .ref h0_roots, .int u12, .ref h0_points, .int u13, .ref h0_ahead, .int t_curves, .ref h0_ps, .ref h0_as, .ref h0_bs, .ref h0_from, .ref h0_kernelPoint, .ref h0_kernelOrder, .ref h0_marked, .ref h0_seen])), (h0_inverses, .inl (k_t_inverses, 10008, .inl f14)), (h0_roots, .inl (k_t_roots, 10008, .inl f15)), (h0_ps, .inl (k_t_ps, 24, .inl t_ps)), (h0_as, .inl (k_t_as, 24, .inl t_as)), (h0_bs, .inl (k_t_bs, 24, .inl t_bs)), (h0_from, .inl (k_t_from, 24, .inl t_from)), (h0_kernelPoint, .inl (k_t_kernelPoint, 24, .inl t_kernelPoint)), (h0_kernelOrder, .inl (k_t_kernelOrder, 24, .inl t_kernelOrder))]) [3, 4, 5, 6, 7, 8, 0, 1, 2] rfl
      have hD := hD.sub (ws' := [(h0, .inr (5, [.int u9, .int u10, .int u11, .ref h0_inverses, .ref h0_roots, .int u12, .ref h0_points, .int u13, .ref h0_ahead, .int t_curves, .ref h0_ps, .ref h0_as, .ref h0_bs, .ref h0_from, .ref h0_kernelPoint, .ref h0_kernelOrder, .ref h0_marked, .ref h0_seen])), (h0_inverses, .inl (k_t_inverses, 10008, .inl f14)), (h0_roots, .inl (k_t_roots, 10008, .inl f15)), (h0_ps, .inl (k_t_ps, 24, .inl t_ps)), (h0_as, .inl (k_t_as, 24, .inl t_as)), (h0_bs, .inl (k_t_bs, 24, .inl t_bs)), (h0_from, .inl (k_t_from, 24, .inl t_from)), (h0_kernelPoint, .inl (k_t_kernelPoint, 24, .inl t_kernelPoint)), (h0_kernelOrder, .inl (k_t_kernelOrder, 24, .inl t_kernelOrder))]) [3, 4, 5, 6, 7, 8, 0, 1, 2] (by decide) rfl
      refine lv_if_eq (tgt := 47) hx hb dX6_image_36 (by decide) (fun c17 => ?_) (fun c17 => ?_)
      · replace h := (if_pos c17).symm.trans h
        refine lv_bipush (v := (-2)) hx hb dX6_image_47 (by decide) ?_
        have hv : ((-2), u9, u10, u11, u12, u13, f14, f15) = rr := Option.some.inj h
        have hP9 := hP.sub (ws' := [(h0, .inr (5, [.int u9, .int u10, .int u11, .ref h0_inverses, .ref h0_roots, .int u12, .ref h0_points, .int u13, .ref h0_ahead, .int t_curves, .ref h0_ps, .ref h0_as, .ref h0_bs, .ref h0_from, .ref h0_kernelPoint, .ref h0_kernelOrder, .ref h0_marked, .ref h0_seen])), (h0_inverses, .inl (k_t_inverses, 10008, .inl f14)), (h0_roots, .inl (k_t_roots, 10008, .inl f15)), (h0_ps, .inl (k_t_ps, 24, .inl t_ps)), (h0_as, .inl (k_t_as, 24, .inl t_as)), (h0_bs, .inl (k_t_bs, 24, .inl t_bs)), (h0_from, .inl (k_t_from, 24, .inl t_from)), (h0_kernelPoint, .inl (k_t_kernelPoint, 24, .inl t_kernelPoint)), (h0_kernelOrder, .inl (k_t_kernelOrder, 24, .inl t_kernelOrder))]) [0, 1, 2, 3, 4, 5, 6, 7, 8] rfl
        have hD9 := hD.sub (ws' := [(h0, .inr (5, [.int u9, .int u10, .int u11, .ref h0_inverses, .ref h0_roots, .int u12, .ref h0_points, .int u13, .ref h0_ahead, .int t_curves, .ref h0_ps, .ref h0_as, .ref h0_bs, .ref h0_from, .ref h0_kernelPoint, .ref h0_kernelOrder, .ref h0_marked, .ref h0_seen])), (h0_inverses, .inl (k_t_inverses, 10008, .inl f14)), (h0_roots, .inl (k_t_roots, 10008, .inl f15)), (h0_ps, .inl (k_t_ps, 24, .inl t_ps)), (h0_as, .inl (k_t_as, 24, .inl t_as)), (h0_bs, .inl (k_t_bs, 24, .inl t_bs)), (h0_from, .inl (k_t_from, 24, .inl t_from)), (h0_kernelPoint, .inl (k_t_kernelPoint, 24, .inl t_kernelPoint)), (h0_kernelOrder, .inl (k_t_kernelOrder, 24, .inl t_kernelOrder))]) [0, 1, 2, 3, 4, 5, 6, 7, 8] (by decide) rfl
        have hK9 := hK.sub (tys' := [(k_t_inverses, .int), (k_t_roots, .int), (k_t_ps, .int), (k_t_as, .int), (k_t_bs, .int), (k_t_from, .int), (k_t_kernelPoint, .int), (k_t_kernelOrder, .int)]) [0, 1, 2, 3, 4, 5, 6, 7] rfl
        exact W.iret (v := (-2)) hx hb hr (fun t ht hW => ⟨⟨(-2), (u9, u10, u11, u12, u13, f14, f15), rfl, hv, by rw [ht]; exact hP9, va_K.moved hW.alike hK9, hD9⟩, hS.F ht⟩) hS.2.2 dX6_image_49
      · replace h := (if_neg c17).symm.trans h
        refine lv_aload_n hx hb dX6_image_39 rfl (lv_at hl 0 rfl) ?_
        refine lv_iload_n hx hb dX6_image_40 rfl (lv_at hl 2 rfl) ?_
        obtain ⟨r18, hr18, h⟩ := Option.bind_eq_some_iff.mp h
        have hPc := hP.sub (ws' := [(h0, .inr (5, [.int u9, .int u10, .int u11, .ref h0_inverses, .ref h0_roots, .int u12, .ref h0_points, .int u13, .ref h0_ahead, .int t_curves, .ref h0_ps, .ref h0_as, .ref h0_bs, .ref h0_from, .ref h0_kernelPoint, .ref h0_kernelOrder, .ref h0_marked, .ref h0_seen]))]) [0] rfl
        have hKc := hK.sub (tys' := []) [] rfl
        refine vp_callSi (W.runV (As := [.int a1]) (rest := []) ⟨hx, hb, hml, hown, hts⟩ (ctX6_isPoint l N dC dI  h0 h0_inverses h0_roots h0_points h0_ahead h0_ps h0_as h0_bs h0_from h0_kernelPoint h0_kernelOrder h0_marked h0_seen u9 u10 u11 u12 u13 t_curves a1 r18 hr18) (cwV 1 hts gX6_image_X6_isPoint rfl rfl rfl (by decide +kernel) ⟨Nat.le_of_ble_eq_true rfl, Nat.le_of_ble_eq_true rfl⟩) ⟨fun a U g mk q => by obtain ⟨q0, qP, qK, qN⟩ := q; exact ⟨q0, qP, va_K.moved (u := U) (U := U.calling g mk a) (Vm.Alike.refl U.vm) qK, nw_same (u := U) (U := U.calling g mk a) rfl qN⟩, va_recv hKc hPc (ci := 5) (q0 := 0) rfl rfl, fun U hU hW => ⟨rfl, by rw [hU]; exact hPc, va_K.moved hW.alike hKc, nw_warm hW hN⟩⟩ rfl rfl hl.1 rfl (lv_room (Nat.le_of_ble_eq_true rfl)) dX6_image_41 ⟨Nat.le_of_ble_eq_true rfl, Nat.le_of_ble_eq_true rfl⟩) (fun q9 eq9 => ?_)
        subst q9
        refine lv_if_ne (tgt := 50) hx hb dX6_image_44 (by decide) (fun c19 => ?_) (fun c19 => ?_)
        · replace h := (if_neg c19).symm.trans h
          refine lv_iload_n hx hb dX6_image_50 rfl (lv_at hl 2 rfl) ?_
          refine lv_iconst (v := (-1)) hx hb dX6_image_51 (by decide) ?_
          refine lv_icmp_ne (tgt := 57) hx hb dX6_image_52 (by decide) (fun c20 => ?_) (fun c20 => ?_)
          · replace h := (if_neg c20).symm.trans h
            refine lv_iload_n hx hb dX6_image_57 rfl (lv_at hl 2 rfl) ?_
            refine lv_sipush (v := 16384) hx hb dX6_image_58 (by decide) ?_
            refine lv_idiv hx hb dX6_image_61 (by decide) ?_
            refine lv_topi (fun v21 ev21 => ?_)
            replace h := mi_use ev21 h
            refine lv_i2l hx hb dX6_image_62 rfl ?_
            refine lv_topl (fun v22 ev22 => ?_)
            replace h := mi_use ev22 h
            refine lv_lstore_n (lv' := [(3, .long v22), (0, .ref h0), (1, .int a0), (2, .int a1)]) hx hb dX6_image_63 rfl hl (by decide) rfl (fun ls hl => ?_)
            refine lv_iload_n hx hb dX6_image_64 rfl (lv_at hl 3 rfl) ?_
            refine lv_sipush (v := 16384) hx hb dX6_image_65 (by decide) ?_
            refine lv_irem hx hb dX6_image_68 (by decide) ?_
            refine lv_topi (fun v23 ev23 => ?_)
            replace h := mi_use ev23 h
            refine lv_i2l hx hb dX6_image_69 rfl ?_
            refine lv_topl (fun v24 ev24 => ?_)
            replace h := mi_use ev24 h
            refine lv_lstore (lv' := [(5, .long v24), (3, .long v22), (0, .ref h0), (1, .int a0), (2, .int a1)]) hx hb dX6_image_70 hl (by decide) rfl (fun ls hl => ?_)
            refine lv_aload_n hx hb dX6_image_72 rfl (lv_at hl 2 rfl) ?_
            refine va_get (D := (dC, dI)) (ci := 5) (v := .ref h0_kernelPoint) (C := RX6) (T := TX6) (N := 18) hx hb hts (by decide +kernel) hown hK hP 0 rfl rfl 14 (by decide) (hts (.fieldLink RX6 34 "PointRingsModel" "kernelPoint" "[I") (by decide +kernel)) (fun _ h9 => h9) rfl dX6_image_73 ?_
            refine lv_iload_n hx hb dX6_image_76 rfl (lv_at hl 3 rfl) ?_
            have hi25 : ¬ (a0 < 0 ∨ 24 ≤ a0.toNatClampNeg) := fun hz => absurd ((if_pos hz).symm.trans h) (fun hh => nomatch hh)
            replace h := (if_neg hi25).symm.trans h
            refine va_iald hx hb hK hP 7 6 rfl rfl hi25 dX6_image_77 ?_
            refine lv_topi (fun v26 ev26 => ?_)
            replace h := mi_use ev26 h
            refine lv_istore (lv' := [(7, .int v26), (5, .long v24), (3, .long v22), (0, .ref h0), (1, .int a0), (2, .int a1)]) hx hb dX6_image_78 hl (by decide) rfl (fun ls hl => ?_)
            refine lv_iconst (v := 1) hx hb dX6_image_80 (by decide) ?_
            refine lv_istore (lv' := [(8, .int 1), (7, .int v26), (5, .long v24), (3, .long v22), (0, .ref h0), (1, .int a0), (2, .int a1)]) hx hb dX6_image_81 hl (by decide) rfl (fun ls hl => ?_)
            have L83 : ∀ (n : Nat) (x27 : Int64) (x28 : Int64) (x29 : Int32) (x30 : Int32) (o : (Int64 × Int64 × Int32 × Int32) ⊕ (Int32 × Int32 × Int32 × Int32 × Int32 × Int32 × (Nat → Int32) × (Nat → Int32))), mi_run (mX6_image_b83 N a0 t_kernelOrder a1 u9 u10 u11 u12 u13 f14 f15 t_kernelPoint) n (x27, x28, x29, x30) = some o → (∀ (y31 : Int64) (y32 : Int64) (y33 : Int32) (y34 : Int32), o = .inl (y31, y32, y33, y34) → ∀ (H : Heap) (locs : List Loc) (ls : Array Slot), va_P (dC, dI) vwCl [(h0, .inr (5, [.int u9, .int u10, .int u11, .ref h0_inverses, .ref h0_roots, .int u12, .ref h0_points, .int u13, .ref h0_ahead, .int t_curves, .ref h0_ps, .ref h0_as, .ref h0_bs, .ref h0_from, .ref h0_kernelPoint, .ref h0_kernelOrder, .ref h0_marked, .ref h0_seen])), (h0_inverses, .inl (k_t_inverses, 10008, .inl f14)), (h0_roots, .inl (k_t_roots, 10008, .inl f15)), (h0_ps, .inl (k_t_ps, 24, .inl t_ps)), (h0_as, .inl (k_t_as, 24, .inl t_as)), (h0_bs, .inl (k_t_bs, 24, .inl t_bs)), (h0_from, .inl (k_t_from, 24, .inl t_from)), (h0_kernelPoint, .inl (k_t_kernelPoint, 24, .inl t_kernelPoint)), (h0_kernelOrder, .inl (k_t_kernelOrder, 24, .inl t_kernelOrder))] H → va_D A [(h0, .inr (5, [.int u9, .int u10, .int u11, .ref h0_inverses, .ref h0_roots, .int u12, .ref h0_points, .int u13, .ref h0_ahead, .int t_curves, .ref h0_ps, .ref h0_as, .ref h0_bs, .ref h0_from, .ref h0_kernelPoint, .ref h0_kernelOrder, .ref h0_marked, .ref h0_seen])), (h0_inverses, .inl (k_t_inverses, 10008, .inl f14)), (h0_roots, .inl (k_t_roots, 10008, .inl f15)), (h0_ps, .inl (k_t_ps, 24, .inl t_ps)), (h0_as, .inl (k_t_as, 24, .inl t_as)), (h0_bs, .inl (k_t_bs, 24, .inl t_bs)), (h0_from, .inl (k_t_from, 24, .inl t_from)), (h0_kernelPoint, .inl (k_t_kernelPoint, 24, .inl t_kernelPoint)), (h0_kernelOrder, .inl (k_t_kernelOrder, 24, .inl t_kernelOrder))] → va_S A s.heap H locs → lv_has ls 10 [(3, .long y31), (5, .long y32), (7, .int y33), (8, .int y34), (0, .ref h0), (1, .int a0), (2, .int a1)] → W p l e (headSpec wsX6_image rmX6_image).room s m (([.ref h0, .int a0, .int a1] : List Value).toArray) below meth c H locs 0 0 (MQ below (va_Qi (fun (r : Int32) (u : Int32 × Int32 × Int32 × Int32 × Int32 × (Nat → Int32) × (Nat → Int32)) => (r, u) = rr) (fun (u : Int32 × Int32 × Int32 × Int32 × Int32 × (Nat → Int32) × (Nat → Int32)) t => match u with | (u0, u1, u2, u3, u4, u5, u6) => va_P (dC, dI) vwCl [(h0, .inr (5, [.int u0, .int u1, .int u2, .ref h0_inverses, .ref h0_roots, .int u3, .ref h0_points, .int u4, .ref h0_ahead, .int t_curves, .ref h0_ps, .ref h0_as, .ref h0_bs, .ref h0_from, .ref h0_kernelPoint, .ref h0_kernelOrder, .ref h0_marked, .ref h0_seen])), (h0_inverses, .inl (k_t_inverses, 10008, .inl u5)), (h0_roots, .inl (k_t_roots, 10008, .inl u6)), (h0_ps, .inl (k_t_ps, 24, .inl t_ps)), (h0_as, .inl (k_t_as, 24, .inl t_as)), (h0_bs, .inl (k_t_bs, 24, .inl t_bs)), (h0_from, .inl (k_t_from, 24, .inl t_from)), (h0_kernelPoint, .inl (k_t_kernelPoint, 24, .inl t_kernelPoint)), (h0_kernelOrder, .inl (k_t_kernelOrder, 24, .inl t_kernelOrder))] t.heap ∧ va_K (dC, dI) vwCl [(k_t_inverses, .int), (k_t_roots, .int), (k_t_ps, .int), (k_t_as, .int), (k_t_bs, .int), (k_t_from, .int), (k_t_kernelPoint, .int), (k_t_kernelOrder, .int)] t ∧ va_D (A) [(h0, .inr (5, [.int u0, .int u1, .int u2, .ref h0_inverses, .ref h0_roots, .int u3, .ref h0_points, .int u4, .ref h0_ahead, .int t_curves, .ref h0_ps, .ref h0_as, .ref h0_bs, .ref h0_from, .ref h0_kernelPoint, .ref h0_kernelOrder, .ref h0_marked, .ref h0_seen])), (h0_inverses, .inl (k_t_inverses, 10008, .inl u5)), (h0_roots, .inl (k_t_roots, 10008, .inl u6)), (h0_ps, .inl (k_t_ps, 24, .inl t_ps)), (h0_as, .inl (k_t_as, 24, .inl t_as)), (h0_bs, .inl (k_t_bs, 24, .inl t_bs)), (h0_from, .inl (k_t_from, 24, .inl t_from)), (h0_kernelPoint, .inl (k_t_kernelPoint, 24, .inl t_kernelPoint)), (h0_kernelOrder, .inl (k_t_kernelOrder, 24, .inl t_kernelOrder))]) (A)) (([.ref h0, .int a0, .int a1] : List Value).toArray) s 0 0 A) (F0 m 175 ls [])) → (∀ v : Int32 × Int32 × Int32 × Int32 × Int32 × Int32 × (Nat → Int32) × (Nat → Int32), o = .inr v → v = rr) → ∀ (H : Heap) (locs : List Loc) (ls : Array Slot), va_P (dC, dI) vwCl [(h0, .inr (5, [.int u9, .int u10, .int u11, .ref h0_inverses, .ref h0_roots, .int u12, .ref h0_points, .int u13, .ref h0_ahead, .int t_curves, .ref h0_ps, .ref h0_as, .ref h0_bs, .ref h0_from, .ref h0_kernelPoint, .ref h0_kernelOrder, .ref h0_marked, .ref h0_seen])), (h0_inverses, .inl (k_t_inverses, 10008, .inl f14)), (h0_roots, .inl (k_t_roots, 10008, .inl f15)), (h0_ps, .inl (k_t_ps, 24, .inl t_ps)), (h0_as, .inl (k_t_as, 24, .inl t_as)), (h0_bs, .inl (k_t_bs, 24, .inl t_bs)), (h0_from, .inl (k_t_from, 24, .inl t_from)), (h0_kernelPoint, .inl (k_t_kernelPoint, 24, .inl t_kernelPoint)), (h0_kernelOrder, .inl (k_t_kernelOrder, 24, .inl t_kernelOrder))] H → va_D A [(h0, .inr (5, [.int u9, .int u10, .int u11, .ref h0_inverses, .ref h0_roots, .int u12, .ref h0_points, .int u13, .ref h0_ahead, .int t_curves, .ref h0_ps, .ref h0_as, .ref h0_bs, .ref h0_from, .ref h0_kernelPoint, .ref h0_kernelOrder, .ref h0_marked, .ref h0_seen])), (h0_inverses, .inl (k_t_inverses, 10008, .inl f14)), (h0_roots, .inl (k_t_roots, 10008, .inl f15)), (h0_ps, .inl (k_t_ps, 24, .inl t_ps)), (h0_as, .inl (k_t_as, 24, .inl t_as)), (h0_bs, .inl (k_t_bs, 24, .inl t_bs)), (h0_from, .inl (k_t_from, 24, .inl t_from)), (h0_kernelPoint, .inl (k_t_kernelPoint, 24, .inl t_kernelPoint)), (h0_kernelOrder, .inl (k_t_kernelOrder, 24, .inl t_kernelOrder))] → va_S A s.heap H locs → lv_has ls 10 [(3, .long x27), (5, .long x28), (7, .int x29), (8, .int x30), (0, .ref h0), (1, .int a0), (2, .int a1)] → W p l e (headSpec wsX6_image rmX6_image).room s m (([.ref h0, .int a0, .int a1] : List Value).toArray) below meth c H locs 0 0 (MQ below (va_Qi (fun (r : Int32) (u : Int32 × Int32 × Int32 × Int32 × Int32 × (Nat → Int32) × (Nat → Int32)) => (r, u) = rr) (fun (u : Int32 × Int32 × Int32 × Int32 × Int32 × (Nat → Int32) × (Nat → Int32)) t => match u with | (u0, u1, u2, u3, u4, u5, u6) => va_P (dC, dI) vwCl [(h0, .inr (5, [.int u0, .int u1, .int u2, .ref h0_inverses, .ref h0_roots, .int u3, .ref h0_points, .int u4, .ref h0_ahead, .int t_curves, .ref h0_ps, .ref h0_as, .ref h0_bs, .ref h0_from, .ref h0_kernelPoint, .ref h0_kernelOrder, .ref h0_marked, .ref h0_seen])), (h0_inverses, .inl (k_t_inverses, 10008, .inl u5)), (h0_roots, .inl (k_t_roots, 10008, .inl u6)), (h0_ps, .inl (k_t_ps, 24, .inl t_ps)), (h0_as, .inl (k_t_as, 24, .inl t_as)), (h0_bs, .inl (k_t_bs, 24, .inl t_bs)), (h0_from, .inl (k_t_from, 24, .inl t_from)), (h0_kernelPoint, .inl (k_t_kernelPoint, 24, .inl t_kernelPoint)), (h0_kernelOrder, .inl (k_t_kernelOrder, 24, .inl t_kernelOrder))] t.heap ∧ va_K (dC, dI) vwCl [(k_t_inverses, .int), (k_t_roots, .int), (k_t_ps, .int), (k_t_as, .int), (k_t_bs, .int), (k_t_from, .int), (k_t_kernelPoint, .int), (k_t_kernelOrder, .int)] t ∧ va_D (A) [(h0, .inr (5, [.int u0, .int u1, .int u2, .ref h0_inverses, .ref h0_roots, .int u3, .ref h0_points, .int u4, .ref h0_ahead, .int t_curves, .ref h0_ps, .ref h0_as, .ref h0_bs, .ref h0_from, .ref h0_kernelPoint, .ref h0_kernelOrder, .ref h0_marked, .ref h0_seen])), (h0_inverses, .inl (k_t_inverses, 10008, .inl u5)), (h0_roots, .inl (k_t_roots, 10008, .inl u6)), (h0_ps, .inl (k_t_ps, 24, .inl t_ps)), (h0_as, .inl (k_t_as, 24, .inl t_as)), (h0_bs, .inl (k_t_bs, 24, .inl t_bs)), (h0_from, .inl (k_t_from, 24, .inl t_from)), (h0_kernelPoint, .inl (k_t_kernelPoint, 24, .inl t_kernelPoint)), (h0_kernelOrder, .inl (k_t_kernelOrder, 24, .inl t_kernelOrder))]) (A)) (([.ref h0, .int a0, .int a1] : List Value).toArray) s 0 0 A) (F0 m 83 ls []) := by
              intro n
              induction n with
              | zero => intro x27 x28 x29 x30 o h; exact absurd h (mi_run_0 _ _ _)
              | succ n ih =>
                intro x27 x28 x29 x30 o h hkE hkR H locs ls hP hD hS hl
                obtain ⟨w, h, hA, hB⟩ := mi_run_s h
                dsimp only [mX6_image_b83] at h
                refine lv_iload hx hb dX6_image_83 (lv_at hl 3 rfl) ?_
                refine lv_aload_n hx hb dX6_image_85 rfl (lv_at hl 4 rfl) ?_
                refine va_get (D := (dC, dI)) (ci := 5) (v := .ref h0_kernelOrder) (C := RX6) (T := TX6) (N := 18) hx hb hts (by decide +kernel) hown hK hP 0 rfl rfl 15 (by decide) (hts (.fieldLink RX6 37 "PointRingsModel" "kernelOrder" "[I") (by decide +kernel)) (fun _ h9 => h9) rfl dX6_image_86 ?_
                refine lv_iload_n hx hb dX6_image_89 rfl (lv_at hl 5 rfl) ?_
                have hi35 : ¬ (a0 < 0 ∨ 24 ≤ a0.toNatClampNeg) := fun hz => absurd ((if_pos hz).symm.trans h) (fun hh => nomatch hh)
                replace h := (if_neg hi35).symm.trans h
                refine va_iald hx hb hK hP 8 7 rfl rfl hi35 dX6_image_90 ?_
                refine lv_topi (fun v36 ev36 => ?_)
                replace h := mi_use ev36 h
                refine lv_icmp_ge (tgt := 175) hx hb dX6_image_91 (by decide) (fun c37 => ?_) (fun c37 => ?_)
                · replace h := (if_pos c37).symm.trans h
                  exact hkE _ _ _ _ (hB _ (Option.some.inj h).symm) _ _ ls hP hD hS (lv_sub hl [0, 1, 2, 3, 4, 5, 6] rfl)
                · replace h := (if_neg c37).symm.trans h
                  refine lv_iload hx hb dX6_image_94 (lv_at hl 2 rfl) ?_
                  refine lv_iload_n hx hb dX6_image_96 rfl (lv_at hl 6 rfl) ?_
                  refine lv_icmp_ne (tgt := 102) hx hb dX6_image_97 (by decide) (fun c38 => ?_) (fun c38 => ?_)
                  · replace h := (if_neg c38).symm.trans h
                    refine lv_aload_n hx hb dX6_image_102 rfl (lv_at hl 4 rfl) ?_
                    refine lv_iload_n hx hb dX6_image_103 rfl (lv_at hl 6 rfl) ?_
                    refine lv_iload hx hb dX6_image_104 (lv_at hl 2 rfl) ?_
                    obtain ⟨r39, hr39, h⟩ := Option.bind_eq_some_iff.mp h
                    have hPc := hP.sub (ws' := [(h0, .inr (5, [.int u9, .int u10, .int u11, .ref h0_inverses, .ref h0_roots, .int u12, .ref h0_points, .int u13, .ref h0_ahead, .int t_curves, .ref h0_ps, .ref h0_as, .ref h0_bs, .ref h0_from, .ref h0_kernelPoint, .ref h0_kernelOrder, .ref h0_marked, .ref h0_seen])), (h0_inverses, .inl (k_t_inverses, 10008, .inl f14))]) [0, 1] rfl
                    have hKc := hK.sub (tys' := [(k_t_inverses, .int)]) [0] rfl
                    refine vp_callSi (W.runV (As := [.int a1, .int x29]) (rest := []) ⟨hx, hb, hml, hown, hts⟩ (ctX6_sum l N dC dI  h0 h0_inverses h0_roots h0_points h0_ahead h0_ps h0_as h0_bs h0_from h0_kernelPoint h0_kernelOrder h0_marked h0_seen k_t_inverses u9 u10 u11 u12 u13 t_curves f14 a1 x29 r39 hr39) (cwV 2 hts gX6_image_X6_sum rfl rfl rfl (by decide +kernel) ⟨Nat.le_of_ble_eq_true rfl, Nat.le_of_ble_eq_true rfl⟩) ⟨fun a U g mk q => by obtain ⟨q0, qP, qK, qN⟩ := q; exact ⟨q0, qP, va_K.moved (u := U) (U := U.calling g mk a) (Vm.Alike.refl U.vm) qK, nw_same (u := U) (U := U.calling g mk a) rfl qN⟩, va_recv hKc hPc (ci := 5) (q0 := 0) rfl rfl, fun U hU hW => ⟨rfl, by rw [hU]; exact hPc, va_K.moved hW.alike hKc, nw_warm hW hN⟩⟩ rfl rfl hl.1 rfl (lv_room (Nat.le_of_ble_eq_true rfl)) dX6_image_106 ⟨Nat.le_of_ble_eq_true rfl, Nat.le_of_ble_eq_true rfl⟩) (fun q9 eq9 => ?_)
                    subst q9
                    refine lv_istore (lv' := [(9, .int r39), (3, .long x27), (5, .long x28), (7, .int x29), (8, .int x30), (0, .ref h0), (1, .int a0), (2, .int a1)]) hx hb dX6_image_109 hl (by decide) rfl (fun ls hl => ?_)
                    refine lv_iload hx hb dX6_image_111 (lv_at hl 0 rfl) ?_
                    refine lv_iconst (v := (-1)) hx hb dX6_image_113 (by decide) ?_
                    refine lv_icmp_ne (tgt := 119) hx hb dX6_image_114 (by decide) (fun c40 => ?_) (fun c40 => ?_)
                    · replace h := (if_neg c40).symm.trans h
                      refine lv_lload_n hx hb dX6_image_119 rfl (lv_at hl 1 rfl) ?_
                      refine lv_iload hx hb dX6_image_120 (lv_at hl 0 rfl) ?_
                      refine lv_sipush (v := 16384) hx hb dX6_image_122 (by decide) ?_
                      refine lv_idiv hx hb dX6_image_125 (by decide) ?_
                      refine lv_topi (fun v41 ev41 => ?_)
                      replace h := mi_use ev41 h
                      refine lv_iload hx hb dX6_image_126 (lv_at hl 3 rfl) ?_
                      refine lv_sipush (v := 16384) hx hb dX6_image_128 (by decide) ?_
                      refine lv_idiv hx hb dX6_image_131 (by decide) ?_
                      refine lv_topi (fun v42 ev42 => ?_)
                      replace h := mi_use ev42 h
                      refine lv_isub hx hb dX6_image_132 ?_
                      refine lv_i2l hx hb dX6_image_133 rfl ?_
                      refine lv_ladd hx hb dX6_image_134 ?_
                      refine lv_topl (fun v43 ev43 => ?_)
                      replace h := mi_use ev43 h
                      refine lv_lstore_n (lv' := [(3, .long v43), (9, .int r39), (5, .long x28), (7, .int x29), (8, .int x30), (0, .ref h0), (1, .int a0), (2, .int a1)]) hx hb dX6_image_135 rfl hl (by decide) rfl (fun ls hl => ?_)
                      refine lv_lload hx hb dX6_image_136 (lv_at hl 2 rfl) ?_
                      refine lv_iload hx hb dX6_image_138 (lv_at hl 1 rfl) ?_
                      refine lv_sipush (v := 16384) hx hb dX6_image_140 (by decide) ?_
                      refine lv_irem hx hb dX6_image_143 (by decide) ?_
                      refine lv_topi (fun v44 ev44 => ?_)
                      replace h := mi_use ev44 h
                      refine lv_iload hx hb dX6_image_144 (lv_at hl 3 rfl) ?_
                      refine lv_sipush (v := 16384) hx hb dX6_image_146 (by decide) ?_
                      refine lv_irem hx hb dX6_image_149 (by decide) ?_
                      refine lv_topi (fun v45 ev45 => ?_)
                      replace h := mi_use ev45 h
                      refine lv_isub hx hb dX6_image_150 ?_
                      refine lv_i2l hx hb dX6_image_151 rfl ?_
                      refine lv_ladd hx hb dX6_image_152 ?_
                      refine lv_topl (fun v46 ev46 => ?_)
                      replace h := mi_use ev46 h
                      refine lv_lstore (lv' := [(5, .long v46), (3, .long v43), (9, .int r39), (7, .int x29), (8, .int x30), (0, .ref h0), (1, .int a0), (2, .int a1)]) hx hb dX6_image_153 hl (by decide) rfl (fun ls hl => ?_)
                      refine lv_aload_n hx hb dX6_image_155 rfl (lv_at hl 5 rfl) ?_
                      refine lv_iload hx hb dX6_image_156 (lv_at hl 3 rfl) ?_
                      refine lv_aload_n hx hb dX6_image_158 rfl (lv_at hl 5 rfl) ?_
                      refine va_get (D := (dC, dI)) (ci := 5) (v := .ref h0_kernelPoint) (C := RX6) (T := TX6) (N := 18) hx hb hts (by decide +kernel) hown hK hP 0 rfl rfl 14 (by decide) (hts (.fieldLink RX6 34 "PointRingsModel" "kernelPoint" "[I") (by decide +kernel)) (fun _ h9 => h9) rfl dX6_image_159 ?_
                      refine lv_iload_n hx hb dX6_image_162 rfl (lv_at hl 6 rfl) ?_
                      have hi47 : ¬ (a0 < 0 ∨ 24 ≤ a0.toNatClampNeg) := fun hz => absurd ((if_pos hz).symm.trans h) (fun hh => nomatch hh)
                      replace h := (if_neg hi47).symm.trans h
                      refine va_iald hx hb hK hP 7 6 rfl rfl hi47 dX6_image_163 ?_
                      refine lv_topi (fun v48 ev48 => ?_)
                      replace h := mi_use ev48 h
                      obtain ⟨r49, hr49, h⟩ := Option.bind_eq_some_iff.mp h
                      have hPc := hP.sub (ws' := [(h0, .inr (5, [.int u9, .int u10, .int u11, .ref h0_inverses, .ref h0_roots, .int u12, .ref h0_points, .int u13, .ref h0_ahead, .int t_curves, .ref h0_ps, .ref h0_as, .ref h0_bs, .ref h0_from, .ref h0_kernelPoint, .ref h0_kernelOrder, .ref h0_marked, .ref h0_seen])), (h0_inverses, .inl (k_t_inverses, 10008, .inl f14))]) [0, 1] rfl
                      have hKc := hK.sub (tys' := [(k_t_inverses, .int)]) [0] rfl
                      refine vp_callSi (W.runV (As := [.int x29, .int v48]) (rest := []) ⟨hx, hb, hml, hown, hts⟩ (ctX6_sum l N dC dI  h0 h0_inverses h0_roots h0_points h0_ahead h0_ps h0_as h0_bs h0_from h0_kernelPoint h0_kernelOrder h0_marked h0_seen k_t_inverses u9 u10 u11 u12 u13 t_curves f14 x29 v48 r49 hr49) (cwV 2 hts gX6_image_X6_sum rfl rfl rfl (by decide +kernel) ⟨Nat.le_of_ble_eq_true rfl, Nat.le_of_ble_eq_true rfl⟩) ⟨fun a U g mk q => by obtain ⟨q0, qP, qK, qN⟩ := q; exact ⟨q0, qP, va_K.moved (u := U) (U := U.calling g mk a) (Vm.Alike.refl U.vm) qK, nw_same (u := U) (U := U.calling g mk a) rfl qN⟩, va_recv hKc hPc (ci := 5) (q0 := 0) rfl rfl, fun U hU hW => ⟨rfl, by rw [hU]; exact hPc, va_K.moved hW.alike hKc, nw_warm hW hN⟩⟩ rfl rfl hl.1 rfl (lv_room (Nat.le_of_ble_eq_true rfl)) dX6_image_164 ⟨Nat.le_of_ble_eq_true rfl, Nat.le_of_ble_eq_true rfl⟩) (fun q9 eq9 => ?_)
                      subst q9
                      refine lv_istore (lv' := [(7, .int r49), (5, .long v46), (3, .long v43), (9, .int r39), (8, .int x30), (0, .ref h0), (1, .int a0), (2, .int a1)]) hx hb dX6_image_167 hl (by decide) rfl (fun ls hl => ?_)
                      obtain ⟨v50, ev50⟩ : ∃ z : Int32, z = x30 + 1 := ⟨_, rfl⟩
                      refine lv_iinc (v := v50) (lv' := [(8, .int v50), (7, .int r49), (5, .long v46), (3, .long v43), (9, .int r39), (0, .ref h0), (1, .int a0), (2, .int a1)]) hx hb dX6_image_169 hl (k := 4) rfl (by rw [ev50]; rfl) (by decide) rfl (fun ls hl => ?_)
                      replace h := mi_use ev50 h
                      refine lv_goto (tgt := 83) hx hb dX6_image_172 (by decide) ?_
                      exact ih _ _ _ _ _ (hA _ (Option.some.inj h).symm) hkE hkR _ _ ls hP hD hS (lv_sub hl [3, 2, 1, 0, 5, 6, 7] rfl)
                    · replace h := (if_pos c40).symm.trans h
                      refine lv_iconst (v := (-1)) hx hb dX6_image_117 (by decide) ?_
                      have hv : ((-1), u9, u10, u11, u12, u13, f14, f15) = rr := hkR _ (hB _ (Option.some.inj h).symm)
                      have hP9 := hP.sub (ws' := [(h0, .inr (5, [.int u9, .int u10, .int u11, .ref h0_inverses, .ref h0_roots, .int u12, .ref h0_points, .int u13, .ref h0_ahead, .int t_curves, .ref h0_ps, .ref h0_as, .ref h0_bs, .ref h0_from, .ref h0_kernelPoint, .ref h0_kernelOrder, .ref h0_marked, .ref h0_seen])), (h0_inverses, .inl (k_t_inverses, 10008, .inl f14)), (h0_roots, .inl (k_t_roots, 10008, .inl f15)), (h0_ps, .inl (k_t_ps, 24, .inl t_ps)), (h0_as, .inl (k_t_as, 24, .inl t_as)), (h0_bs, .inl (k_t_bs, 24, .inl t_bs)), (h0_from, .inl (k_t_from, 24, .inl t_from)), (h0_kernelPoint, .inl (k_t_kernelPoint, 24, .inl t_kernelPoint)), (h0_kernelOrder, .inl (k_t_kernelOrder, 24, .inl t_kernelOrder))]) [0, 1, 2, 3, 4, 5, 6, 7, 8] rfl
                      have hD9 := hD.sub (ws' := [(h0, .inr (5, [.int u9, .int u10, .int u11, .ref h0_inverses, .ref h0_roots, .int u12, .ref h0_points, .int u13, .ref h0_ahead, .int t_curves, .ref h0_ps, .ref h0_as, .ref h0_bs, .ref h0_from, .ref h0_kernelPoint, .ref h0_kernelOrder, .ref h0_marked, .ref h0_seen])), (h0_inverses, .inl (k_t_inverses, 10008, .inl f14)), (h0_roots, .inl (k_t_roots, 10008, .inl f15)), (h0_ps, .inl (k_t_ps, 24, .inl t_ps)), (h0_as, .inl (k_t_as, 24, .inl t_as)), (h0_bs, .inl (k_t_bs, 24, .inl t_bs)), (h0_from, .inl (k_t_from, 24, .inl t_from)), (h0_kernelPoint, .inl (k_t_kernelPoint, 24, .inl t_kernelPoint)), (h0_kernelOrder, .inl (k_t_kernelOrder, 24, .inl t_kernelOrder))]) [0, 1, 2, 3, 4, 5, 6, 7, 8] (by decide) rfl
                      have hK9 := hK.sub (tys' := [(k_t_inverses, .int), (k_t_roots, .int), (k_t_ps, .int), (k_t_as, .int), (k_t_bs, .int), (k_t_from, .int), (k_t_kernelPoint, .int), (k_t_kernelOrder, .int)]) [0, 1, 2, 3, 4, 5, 6, 7] rfl
                      exact W.iret (v := (-1)) hx hb hr (fun t ht hW => ⟨⟨(-1), (u9, u10, u11, u12, u13, f14, f15), rfl, hv, by rw [ht]; exact hP9, va_K.moved hW.alike hK9, hD9⟩, hS.F ht⟩) hS.2.2 dX6_image_118
                  · replace h := (if_pos c38).symm.trans h
                    refine lv_iconst (v := (-1)) hx hb dX6_image_100 (by decide) ?_
                    have hv : ((-1), u9, u10, u11, u12, u13, f14, f15) = rr := hkR _ (hB _ (Option.some.inj h).symm)
                    have hP9 := hP.sub (ws' := [(h0, .inr (5, [.int u9, .int u10, .int u11, .ref h0_inverses, .ref h0_roots, .int u12, .ref h0_points, .int u13, .ref h0_ahead, .int t_curves, .ref h0_ps, .ref h0_as, .ref h0_bs, .ref h0_from, .ref h0_kernelPoint, .ref h0_kernelOrder, .ref h0_marked, .ref h0_seen])), (h0_inverses, .inl (k_t_inverses, 10008, .inl f14)), (h0_roots, .inl (k_t_roots, 10008, .inl f15)), (h0_ps, .inl (k_t_ps, 24, .inl t_ps)), (h0_as, .inl (k_t_as, 24, .inl t_as)), (h0_bs, .inl (k_t_bs, 24, .inl t_bs)), (h0_from, .inl (k_t_from, 24, .inl t_from)), (h0_kernelPoint, .inl (k_t_kernelPoint, 24, .inl t_kernelPoint)), (h0_kernelOrder, .inl (k_t_kernelOrder, 24, .inl t_kernelOrder))]) [0, 1, 2, 3, 4, 5, 6, 7, 8] rfl
                    have hD9 := hD.sub (ws' := [(h0, .inr (5, [.int u9, .int u10, .int u11, .ref h0_inverses, .ref h0_roots, .int u12, .ref h0_points, .int u13, .ref h0_ahead, .int t_curves, .ref h0_ps, .ref h0_as, .ref h0_bs, .ref h0_from, .ref h0_kernelPoint, .ref h0_kernelOrder, .ref h0_marked, .ref h0_seen])), (h0_inverses, .inl (k_t_inverses, 10008, .inl f14)), (h0_roots, .inl (k_t_roots, 10008, .inl f15)), (h0_ps, .inl (k_t_ps, 24, .inl t_ps)), (h0_as, .inl (k_t_as, 24, .inl t_as)), (h0_bs, .inl (k_t_bs, 24, .inl t_bs)), (h0_from, .inl (k_t_from, 24, .inl t_from)), (h0_kernelPoint, .inl (k_t_kernelPoint, 24, .inl t_kernelPoint)), (h0_kernelOrder, .inl (k_t_kernelOrder, 24, .inl t_kernelOrder))]) [0, 1, 2, 3, 4, 5, 6, 7, 8] (by decide) rfl
                    have hK9 := hK.sub (tys' := [(k_t_inverses, .int), (k_t_roots, .int), (k_t_ps, .int), (k_t_as, .int), (k_t_bs, .int), (k_t_from, .int), (k_t_kernelPoint, .int), (k_t_kernelOrder, .int)]) [0, 1, 2, 3, 4, 5, 6, 7] rfl
                    exact W.iret (v := (-1)) hx hb hr (fun t ht hW => ⟨⟨(-1), (u9, u10, u11, u12, u13, f14, f15), rfl, hv, by rw [ht]; exact hP9, va_K.moved hW.alike hK9, hD9⟩, hS.F ht⟩) hS.2.2 dX6_image_101
            obtain ⟨o51, ho51, h⟩ := Option.bind_eq_some_iff.mp h
            refine L83 N _ _ _ _ o51 ho51 ?_ ?_ _ _ ls hP hD hS (lv_sub hl [3, 2, 1, 0, 4, 5, 6] rfl)
            · intro y31 y32 y33 y34 eo H locs ls hP hD hS hl
              subst eo
              try dsimp only at h
              refine lv_sipush (v := 16384) hx hb dX6_image_175 (by decide) ?_
              refine lv_aload_n hx hb dX6_image_178 rfl (lv_at hl 4 rfl) ?_
              refine lv_lload_n hx hb dX6_image_179 rfl (lv_at hl 0 rfl) ?_
              obtain ⟨r52, hr52, h⟩ := Option.bind_eq_some_iff.mp h
              have hPc := hP.sub (ws' := [(h0, .inr (5, [.int u9, .int u10, .int u11, .ref h0_inverses, .ref h0_roots, .int u12, .ref h0_points, .int u13, .ref h0_ahead, .int t_curves, .ref h0_ps, .ref h0_as, .ref h0_bs, .ref h0_from, .ref h0_kernelPoint, .ref h0_kernelOrder, .ref h0_marked, .ref h0_seen]))]) [0] rfl
              have hKc := hK.sub (tys' := []) [] rfl
              refine vp_callSi (W.runV (As := [.long y31]) (rest := [.int 16384]) ⟨hx, hb, hml, hown, hts⟩ (ctX6_mod l N dC dI  h0 h0_inverses h0_roots h0_points h0_ahead h0_ps h0_as h0_bs h0_from h0_kernelPoint h0_kernelOrder h0_marked h0_seen u9 u10 u11 u12 u13 t_curves y31 r52 hr52) (cwV 1 hts gX6_image_X6_mod rfl rfl rfl (by decide +kernel) ⟨Nat.le_of_ble_eq_true rfl, Nat.le_of_ble_eq_true rfl⟩) ⟨fun a U g mk q => by obtain ⟨q0, qP, qK, qN⟩ := q; exact ⟨q0, qP, va_K.moved (u := U) (U := U.calling g mk a) (Vm.Alike.refl U.vm) qK, nw_same (u := U) (U := U.calling g mk a) rfl qN⟩, va_recv hKc hPc (ci := 5) (q0 := 0) rfl rfl, fun U hU hW => ⟨rfl, by rw [hU]; exact hPc, va_K.moved hW.alike hKc, nw_warm hW hN⟩⟩ rfl rfl hl.1 rfl (lv_room (Nat.le_of_ble_eq_true rfl)) dX6_image_180 ⟨Nat.le_of_ble_eq_true rfl, Nat.le_of_ble_eq_true rfl⟩) (fun q9 eq9 => ?_)
              subst q9
              refine lv_imul hx hb dX6_image_183 ?_
              refine lv_aload_n hx hb dX6_image_184 rfl (lv_at hl 4 rfl) ?_
              refine lv_lload hx hb dX6_image_185 (lv_at hl 1 rfl) ?_
              obtain ⟨r53, hr53, h⟩ := Option.bind_eq_some_iff.mp h
              have hPc := hP.sub (ws' := [(h0, .inr (5, [.int u9, .int u10, .int u11, .ref h0_inverses, .ref h0_roots, .int u12, .ref h0_points, .int u13, .ref h0_ahead, .int t_curves, .ref h0_ps, .ref h0_as, .ref h0_bs, .ref h0_from, .ref h0_kernelPoint, .ref h0_kernelOrder, .ref h0_marked, .ref h0_seen]))]) [0] rfl
              have hKc := hK.sub (tys' := []) [] rfl
              refine vp_callSi (W.runV (As := [.long y32]) (rest := [.int (16384 * r52)]) ⟨hx, hb, hml, hown, hts⟩ (ctX6_mod l N dC dI  h0 h0_inverses h0_roots h0_points h0_ahead h0_ps h0_as h0_bs h0_from h0_kernelPoint h0_kernelOrder h0_marked h0_seen u9 u10 u11 u12 u13 t_curves y32 r53 hr53) (cwV 1 hts gX6_image_X6_mod rfl rfl rfl (by decide +kernel) ⟨Nat.le_of_ble_eq_true rfl, Nat.le_of_ble_eq_true rfl⟩) ⟨fun a U g mk q => by obtain ⟨q0, qP, qK, qN⟩ := q; exact ⟨q0, qP, va_K.moved (u := U) (U := U.calling g mk a) (Vm.Alike.refl U.vm) qK, nw_same (u := U) (U := U.calling g mk a) rfl qN⟩, va_recv hKc hPc (ci := 5) (q0 := 0) rfl rfl, fun U hU hW => ⟨rfl, by rw [hU]; exact hPc, va_K.moved hW.alike hKc, nw_warm hW hN⟩⟩ rfl rfl hl.1 rfl (lv_room (Nat.le_of_ble_eq_true rfl)) dX6_image_187 ⟨Nat.le_of_ble_eq_true rfl, Nat.le_of_ble_eq_true rfl⟩) (fun q9 eq9 => ?_)
              subst q9
              refine lv_iadd hx hb dX6_image_190 ?_
              have hv : ((16384 * r52) + r53, u9, u10, u11, u12, u13, f14, f15) = rr := Option.some.inj h
              have hP9 := hP.sub (ws' := [(h0, .inr (5, [.int u9, .int u10, .int u11, .ref h0_inverses, .ref h0_roots, .int u12, .ref h0_points, .int u13, .ref h0_ahead, .int t_curves, .ref h0_ps, .ref h0_as, .ref h0_bs, .ref h0_from, .ref h0_kernelPoint, .ref h0_kernelOrder, .ref h0_marked, .ref h0_seen])), (h0_inverses, .inl (k_t_inverses, 10008, .inl f14)), (h0_roots, .inl (k_t_roots, 10008, .inl f15)), (h0_ps, .inl (k_t_ps, 24, .inl t_ps)), (h0_as, .inl (k_t_as, 24, .inl t_as)), (h0_bs, .inl (k_t_bs, 24, .inl t_bs)), (h0_from, .inl (k_t_from, 24, .inl t_from)), (h0_kernelPoint, .inl (k_t_kernelPoint, 24, .inl t_kernelPoint)), (h0_kernelOrder, .inl (k_t_kernelOrder, 24, .inl t_kernelOrder))]) [0, 1, 2, 3, 4, 5, 6, 7, 8] rfl
              have hD9 := hD.sub (ws' := [(h0, .inr (5, [.int u9, .int u10, .int u11, .ref h0_inverses, .ref h0_roots, .int u12, .ref h0_points, .int u13, .ref h0_ahead, .int t_curves, .ref h0_ps, .ref h0_as, .ref h0_bs, .ref h0_from, .ref h0_kernelPoint, .ref h0_kernelOrder, .ref h0_marked, .ref h0_seen])), (h0_inverses, .inl (k_t_inverses, 10008, .inl f14)), (h0_roots, .inl (k_t_roots, 10008, .inl f15)), (h0_ps, .inl (k_t_ps, 24, .inl t_ps)), (h0_as, .inl (k_t_as, 24, .inl t_as)), (h0_bs, .inl (k_t_bs, 24, .inl t_bs)), (h0_from, .inl (k_t_from, 24, .inl t_from)), (h0_kernelPoint, .inl (k_t_kernelPoint, 24, .inl t_kernelPoint)), (h0_kernelOrder, .inl (k_t_kernelOrder, 24, .inl t_kernelOrder))]) [0, 1, 2, 3, 4, 5, 6, 7, 8] (by decide) rfl
              have hK9 := hK.sub (tys' := [(k_t_inverses, .int), (k_t_roots, .int), (k_t_ps, .int), (k_t_as, .int), (k_t_bs, .int), (k_t_from, .int), (k_t_kernelPoint, .int), (k_t_kernelOrder, .int)]) [0, 1, 2, 3, 4, 5, 6, 7] rfl
              exact W.iret (v := ((16384 * r52) + r53)) hx hb hr (fun t ht hW => ⟨⟨(16384 * r52) + r53, (u9, u10, u11, u12, u13, f14, f15), rfl, hv, by rw [ht]; exact hP9, va_K.moved hW.alike hK9, hD9⟩, hS.F ht⟩) hS.2.2 dX6_image_191
            · intro r54 eo
              subst eo
              try dsimp only at h
              exact Option.some.inj h
          · replace h := (if_pos c20).symm.trans h
            refine lv_iload_n hx hb dX6_image_55 rfl (lv_at hl 2 rfl) ?_
            have hv : (a1, u9, u10, u11, u12, u13, f14, f15) = rr := Option.some.inj h
            have hP9 := hP.sub (ws' := [(h0, .inr (5, [.int u9, .int u10, .int u11, .ref h0_inverses, .ref h0_roots, .int u12, .ref h0_points, .int u13, .ref h0_ahead, .int t_curves, .ref h0_ps, .ref h0_as, .ref h0_bs, .ref h0_from, .ref h0_kernelPoint, .ref h0_kernelOrder, .ref h0_marked, .ref h0_seen])), (h0_inverses, .inl (k_t_inverses, 10008, .inl f14)), (h0_roots, .inl (k_t_roots, 10008, .inl f15)), (h0_ps, .inl (k_t_ps, 24, .inl t_ps)), (h0_as, .inl (k_t_as, 24, .inl t_as)), (h0_bs, .inl (k_t_bs, 24, .inl t_bs)), (h0_from, .inl (k_t_from, 24, .inl t_from)), (h0_kernelPoint, .inl (k_t_kernelPoint, 24, .inl t_kernelPoint)), (h0_kernelOrder, .inl (k_t_kernelOrder, 24, .inl t_kernelOrder))]) [0, 1, 2, 3, 4, 5, 6, 7, 8] rfl
            have hD9 := hD.sub (ws' := [(h0, .inr (5, [.int u9, .int u10, .int u11, .ref h0_inverses, .ref h0_roots, .int u12, .ref h0_points, .int u13, .ref h0_ahead, .int t_curves, .ref h0_ps, .ref h0_as, .ref h0_bs, .ref h0_from, .ref h0_kernelPoint, .ref h0_kernelOrder, .ref h0_marked, .ref h0_seen])), (h0_inverses, .inl (k_t_inverses, 10008, .inl f14)), (h0_roots, .inl (k_t_roots, 10008, .inl f15)), (h0_ps, .inl (k_t_ps, 24, .inl t_ps)), (h0_as, .inl (k_t_as, 24, .inl t_as)), (h0_bs, .inl (k_t_bs, 24, .inl t_bs)), (h0_from, .inl (k_t_from, 24, .inl t_from)), (h0_kernelPoint, .inl (k_t_kernelPoint, 24, .inl t_kernelPoint)), (h0_kernelOrder, .inl (k_t_kernelOrder, 24, .inl t_kernelOrder))]) [0, 1, 2, 3, 4, 5, 6, 7, 8] (by decide) rfl
            have hK9 := hK.sub (tys' := [(k_t_inverses, .int), (k_t_roots, .int), (k_t_ps, .int), (k_t_as, .int), (k_t_bs, .int), (k_t_from, .int), (k_t_kernelPoint, .int), (k_t_kernelOrder, .int)]) [0, 1, 2, 3, 4, 5, 6, 7] rfl
            exact W.iret (v := a1) hx hb hr (fun t ht hW => ⟨⟨a1, (u9, u10, u11, u12, u13, f14, f15), rfl, hv, by rw [ht]; exact hP9, va_K.moved hW.alike hK9, hD9⟩, hS.F ht⟩) hS.2.2 dX6_image_56
        · replace h := (if_pos c19).symm.trans h
          refine lv_bipush (v := (-2)) hx hb dX6_image_47 (by decide) ?_
          have hv : ((-2), u9, u10, u11, u12, u13, f14, f15) = rr := Option.some.inj h
          have hP9 := hP.sub (ws' := [(h0, .inr (5, [.int u9, .int u10, .int u11, .ref h0_inverses, .ref h0_roots, .int u12, .ref h0_points, .int u13, .ref h0_ahead, .int t_curves, .ref h0_ps, .ref h0_as, .ref h0_bs, .ref h0_from, .ref h0_kernelPoint, .ref h0_kernelOrder, .ref h0_marked, .ref h0_seen])), (h0_inverses, .inl (k_t_inverses, 10008, .inl f14)), (h0_roots, .inl (k_t_roots, 10008, .inl f15)), (h0_ps, .inl (k_t_ps, 24, .inl t_ps)), (h0_as, .inl (k_t_as, 24, .inl t_as)), (h0_bs, .inl (k_t_bs, 24, .inl t_bs)), (h0_from, .inl (k_t_from, 24, .inl t_from)), (h0_kernelPoint, .inl (k_t_kernelPoint, 24, .inl t_kernelPoint)), (h0_kernelOrder, .inl (k_t_kernelOrder, 24, .inl t_kernelOrder))]) [0, 1, 2, 3, 4, 5, 6, 7, 8] rfl
          have hD9 := hD.sub (ws' := [(h0, .inr (5, [.int u9, .int u10, .int u11, .ref h0_inverses, .ref h0_roots, .int u12, .ref h0_points, .int u13, .ref h0_ahead, .int t_curves, .ref h0_ps, .ref h0_as, .ref h0_bs, .ref h0_from, .ref h0_kernelPoint, .ref h0_kernelOrder, .ref h0_marked, .ref h0_seen])), (h0_inverses, .inl (k_t_inverses, 10008, .inl f14)), (h0_roots, .inl (k_t_roots, 10008, .inl f15)), (h0_ps, .inl (k_t_ps, 24, .inl t_ps)), (h0_as, .inl (k_t_as, 24, .inl t_as)), (h0_bs, .inl (k_t_bs, 24, .inl t_bs)), (h0_from, .inl (k_t_from, 24, .inl t_from)), (h0_kernelPoint, .inl (k_t_kernelPoint, 24, .inl t_kernelPoint)), (h0_kernelOrder, .inl (k_t_kernelOrder, 24, .inl t_kernelOrder))]) [0, 1, 2, 3, 4, 5, 6, 7, 8] (by decide) rfl
          have hK9 := hK.sub (tys' := [(k_t_inverses, .int), (k_t_roots, .int), (k_t_ps, .int), (k_t_as, .int), (k_t_bs, .int), (k_t_from, .int), (k_t_kernelPoint, .int), (k_t_kernelOrder, .int)]) [0, 1, 2, 3, 4, 5, 6, 7] rfl
          exact W.iret (v := (-2)) hx hb hr (fun t ht hW => ⟨⟨(-2), (u9, u10, u11, u12, u13, f14, f15), rfl, hv, by rw [ht]; exact hP9, va_K.moved hW.alike hK9, hD9⟩, hS.F ht⟩) hS.2.2 dX6_image_49
def mX6_kernel (N : Nat) (t_curves : Int32) (t_from : Nat → Int32) (t_kernelPoint : Nat → Int32) (t_kernelOrder : Nat → Int32) (a0 : Int32) (a1 : Int32) : Option (Int32) := (mX6_in N a0.toInt64 0 ((t_curves - 1).toInt64)).bind (fun r1 => if r1 = 0 then some (-2) else if a0 < 0 ∨ 24 ≤ a0.toNatClampNeg then none else mi_let (t_from a0.toNatClampNeg) (fun v4 => if v4 = (-1) then some (-2) else (mX6_in N a1.toInt64 0 2).bind (fun r6 => if r6 = 0 then some (-2) else if a1 = 0 then if a0 < 0 ∨ 24 ≤ a0.toNatClampNeg then none else mi_let (t_from a0.toNatClampNeg) (fun v15 => some v15) else if a1 = 1 then if a0 < 0 ∨ 24 ≤ a0.toNatClampNeg then none else mi_let (t_kernelPoint a0.toNatClampNeg) (fun v13 => some v13) else if a0 < 0 ∨ 24 ≤ a0.toNatClampNeg then none else mi_let (t_kernelOrder a0.toNatClampNeg) (fun v11 => some v11))))
abbrev rmX6_kernel : Room := { frames := 1, cells := 0, slots := 0, locals := 25 }
set_option maxHeartbeats 4000000 in
set_option maxRecDepth 100000 in
theorem ctX6_kernel (l : Launch) (N : Nat) (dC : Nat → ClassId) (dI : Nat → Nat → Nat) (h0 : Nat) (h0_from : Nat) (h0_kernelPoint : Nat) (h0_kernelOrder : Nat) (h0_inverses : Nat) (h0_roots : Nat) (h0_points : Nat) (h0_ahead : Nat) (h0_ps : Nat) (h0_as : Nat) (h0_bs : Nat) (h0_marked : Nat) (h0_seen : Nat) (k_t_from : ClassId) (k_t_kernelPoint : ClassId) (k_t_kernelOrder : ClassId) (t_p : Int32) (t_a : Int32) (t_b : Int32) (t_rooted : Int32) (t_pointMany : Int32) (t_curves : Int32) (t_from : Nat → Int32) (t_kernelPoint : Nat → Int32) (t_kernelOrder : Nat → Int32) (a0 : Int32) (a1 : Int32) (rr : Int32) (h : mX6_kernel N t_curves t_from t_kernelPoint t_kernelOrder a0 a1 = some rr) : Met l yX6_kernel wsX6_kernel rmX6_kernel (va_Pc [.ref h0, .int a0, .int a1] (fun U => va_P (dC, dI) vwCl [(h0, .inr (5, [.int t_p, .int t_a, .int t_b, .ref h0_inverses, .ref h0_roots, .int t_rooted, .ref h0_points, .int t_pointMany, .ref h0_ahead, .int t_curves, .ref h0_ps, .ref h0_as, .ref h0_bs, .ref h0_from, .ref h0_kernelPoint, .ref h0_kernelOrder, .ref h0_marked, .ref h0_seen])), (h0_from, .inl (k_t_from, 24, .inl t_from)), (h0_kernelPoint, .inl (k_t_kernelPoint, 24, .inl t_kernelPoint)), (h0_kernelOrder, .inl (k_t_kernelOrder, 24, .inl t_kernelOrder))] U.heap ∧ va_K (dC, dI) vwCl [(k_t_from, .int), (k_t_kernelPoint, .int), (k_t_kernelOrder, .int)] U ∧ nw_all U)) (vp_Si (fun r => r = rr)) 0 0 (fun _ => False) := by
  refine Met.ofW (cc := cX6_kernel) (maxL := 3) (ret := (some .int)) (by decide) rfl ?_
  intro p e s m args below meth c s₁ B hml hv
  obtain ⟨rfl, hP, hK, hN⟩ := hv
  have hx := B.exec
  have hb := B.bytes
  have hr := B.returns
  have hts := atoms_spec (ws := wsX6_kernel) B.pre
  have hown : s.vm.findClass RX6 = some m.cls := findClass_of_methodNamed B.named
  have hlocks := B.notSynchronized
  have hl := lv_entry ([.ref h0, .int a0, .int a1]) (n := 3) (Nat.le_of_ble_eq_true rfl)
  rw [lg_entry_eq]
  generalize (lg_sl ([.ref h0, .int a0, .int a1]) ++ List.replicate (3 - (lg_sl ([.ref h0, .int a0, .int a1])).length) Slot.unset).toArray = ls at hl ⊢
  have hl : lv_has ls 3 [(0, .ref h0), (1, .int a0), (2, .int a1)] := hl
  dsimp only [mX6_kernel] at h
  refine lv_iload_n hx hb dX6_kernel_0 rfl (lv_at hl 1 rfl) ?_
  refine lv_i2l hx hb dX6_kernel_1 rfl ?_
  refine lv_lconst (v := 0) hx hb dX6_kernel_2 (by decide) ?_
  refine lv_aload_n hx hb dX6_kernel_3 rfl (lv_at hl 0 rfl) ?_
  refine va_get (D := (dC, dI)) (ci := 5) (v := .int t_curves) (C := RX6) (T := TX6) (N := 18) hx hb hts (by decide +kernel) hown hK hP 0 rfl rfl 9 (by decide) (hts (.fieldLink RX6 112 "PointRingsModel" "curves" "I") (by decide +kernel)) (fun _ h9 => h9) rfl dX6_kernel_4 ?_
  refine lv_iconst (v := 1) hx hb dX6_kernel_7 (by decide) ?_
  refine lv_isub hx hb dX6_kernel_8 ?_
  refine lv_i2l hx hb dX6_kernel_9 rfl ?_
  obtain ⟨r1, hr1, h⟩ := Option.bind_eq_some_iff.mp h
  refine vp_callSi (W.runS (As := [.long a0.toInt64, .long 0, .long ((t_curves - 1).toInt64)]) (rest := []) ⟨hx, hb, hml, hown, hts⟩ (ctX6_in l N  a0.toInt64 0 ((t_curves - 1).toInt64) r1 hr1) (va_cwS 3 hts gX6_kernel_X6_in rfl rfl rfl (by decide +kernel) ⟨Nat.le_of_ble_eq_true rfl, Nat.le_of_ble_eq_true rfl⟩) preEq rfl rfl hl.1 rfl (lv_room (Nat.le_of_ble_eq_true rfl)) dX6_kernel_10 ⟨Nat.le_of_ble_eq_true rfl, Nat.le_of_ble_eq_true rfl⟩) (fun q9 eq9 => ?_)
  subst q9
  refine lv_if_eq (tgt := 38) hx hb dX6_kernel_13 (by decide) (fun c2 => ?_) (fun c2 => ?_)
  · replace h := (if_pos c2).symm.trans h
    refine lv_bipush (v := (-2)) hx hb dX6_kernel_38 (by decide) ?_
    have hv : (-2) = rr := Option.some.inj h
    exact W.iret (v := (-2)) hx hb hr (fun t ht hW => ⟨_, rfl, hv, ht⟩) (fun q hq => absurd hq List.not_mem_nil) dX6_kernel_40
  · replace h := (if_neg c2).symm.trans h
    refine lv_aload_n hx hb dX6_kernel_16 rfl (lv_at hl 0 rfl) ?_
    refine va_get (D := (dC, dI)) (ci := 5) (v := .ref h0_from) (C := RX6) (T := TX6) (N := 18) hx hb hts (by decide +kernel) hown hK hP 0 rfl rfl 13 (by decide) (hts (.fieldLink RX6 31 "PointRingsModel" "from" "[I") (by decide +kernel)) (fun _ h9 => h9) rfl dX6_kernel_17 ?_
    refine lv_iload_n hx hb dX6_kernel_20 rfl (lv_at hl 1 rfl) ?_
    have hi3 : ¬ (a0 < 0 ∨ 24 ≤ a0.toNatClampNeg) := fun hz => absurd ((if_pos hz).symm.trans h) (fun hh => nomatch hh)
    replace h := (if_neg hi3).symm.trans h
    refine va_iald hx hb hK hP 1 0 rfl rfl hi3 dX6_kernel_21 ?_
    refine lv_topi (fun v4 ev4 => ?_)
    replace h := mi_use ev4 h
    refine lv_iconst (v := (-1)) hx hb dX6_kernel_22 (by decide) ?_
    refine lv_icmp_eq (tgt := 38) hx hb dX6_kernel_23 (by decide) (fun c5 => ?_) (fun c5 => ?_)
    · replace h := (if_pos c5).symm.trans h
      refine lv_bipush (v := (-2)) hx hb dX6_kernel_38 (by decide) ?_
      have hv : (-2) = rr := Option.some.inj h
      exact W.iret (v := (-2)) hx hb hr (fun t ht hW => ⟨_, rfl, hv, ht⟩) (fun q hq => absurd hq List.not_mem_nil) dX6_kernel_40
    · replace h := (if_neg c5).symm.trans h
      refine lv_iload_n hx hb dX6_kernel_26 rfl (lv_at hl 2 rfl) ?_
      refine lv_i2l hx hb dX6_kernel_27 rfl ?_
      refine lv_lconst (v := 0) hx hb dX6_kernel_28 (by decide) ?_
      refine lv_ldc2 (v := 2) hx hb hown (hts (.constantLong RX6 81 2) (by decide +kernel)) dX6_kernel_29 ?_
      obtain ⟨r6, hr6, h⟩ := Option.bind_eq_some_iff.mp h
      refine vp_callSi (W.runS (As := [.long a1.toInt64, .long 0, .long 2]) (rest := []) ⟨hx, hb, hml, hown, hts⟩ (ctX6_in l N  a1.toInt64 0 2 r6 hr6) (va_cwS 3 hts gX6_kernel_X6_in rfl rfl rfl (by decide +kernel) ⟨Nat.le_of_ble_eq_true rfl, Nat.le_of_ble_eq_true rfl⟩) preEq rfl rfl hl.1 rfl (lv_room (Nat.le_of_ble_eq_true rfl)) dX6_kernel_32 ⟨Nat.le_of_ble_eq_true rfl, Nat.le_of_ble_eq_true rfl⟩) (fun q9 eq9 => ?_)
      subst q9
      refine lv_if_ne (tgt := 41) hx hb dX6_kernel_35 (by decide) (fun c7 => ?_) (fun c7 => ?_)
      · replace h := (if_neg c7).symm.trans h
        refine lv_iload_n hx hb dX6_kernel_41 rfl (lv_at hl 2 rfl) ?_
        refine lv_if_ne (tgt := 54) hx hb dX6_kernel_42 (by decide) (fun c8 => ?_) (fun c8 => ?_)
        · replace h := (if_neg c8).symm.trans h
          refine lv_iload_n hx hb dX6_kernel_54 rfl (lv_at hl 2 rfl) ?_
          refine lv_iconst (v := 1) hx hb dX6_kernel_55 (by decide) ?_
          refine lv_icmp_ne (tgt := 68) hx hb dX6_kernel_56 (by decide) (fun c9 => ?_) (fun c9 => ?_)
          · replace h := (if_neg c9).symm.trans h
            refine lv_aload_n hx hb dX6_kernel_68 rfl (lv_at hl 0 rfl) ?_
            refine va_get (D := (dC, dI)) (ci := 5) (v := .ref h0_kernelOrder) (C := RX6) (T := TX6) (N := 18) hx hb hts (by decide +kernel) hown hK hP 0 rfl rfl 15 (by decide) (hts (.fieldLink RX6 37 "PointRingsModel" "kernelOrder" "[I") (by decide +kernel)) (fun _ h9 => h9) rfl dX6_kernel_69 ?_
            refine lv_iload_n hx hb dX6_kernel_72 rfl (lv_at hl 1 rfl) ?_
            have hi10 : ¬ (a0 < 0 ∨ 24 ≤ a0.toNatClampNeg) := fun hz => absurd ((if_pos hz).symm.trans h) (fun hh => nomatch hh)
            replace h := (if_neg hi10).symm.trans h
            refine va_iald hx hb hK hP 3 2 rfl rfl hi10 dX6_kernel_73 ?_
            refine lv_topi (fun v11 ev11 => ?_)
            replace h := mi_use ev11 h
            have hv : v11 = rr := Option.some.inj h
            exact W.iret (v := v11) hx hb hr (fun t ht hW => ⟨_, rfl, hv, ht⟩) (fun q hq => absurd hq List.not_mem_nil) dX6_kernel_74
          · replace h := (if_pos c9).symm.trans h
            refine lv_aload_n hx hb dX6_kernel_59 rfl (lv_at hl 0 rfl) ?_
            refine va_get (D := (dC, dI)) (ci := 5) (v := .ref h0_kernelPoint) (C := RX6) (T := TX6) (N := 18) hx hb hts (by decide +kernel) hown hK hP 0 rfl rfl 14 (by decide) (hts (.fieldLink RX6 34 "PointRingsModel" "kernelPoint" "[I") (by decide +kernel)) (fun _ h9 => h9) rfl dX6_kernel_60 ?_
            refine lv_iload_n hx hb dX6_kernel_63 rfl (lv_at hl 1 rfl) ?_
            have hi12 : ¬ (a0 < 0 ∨ 24 ≤ a0.toNatClampNeg) := fun hz => absurd ((if_pos hz).symm.trans h) (fun hh => nomatch hh)
            replace h := (if_neg hi12).symm.trans h
            refine va_iald hx hb hK hP 2 1 rfl rfl hi12 dX6_kernel_64 ?_
            refine lv_topi (fun v13 ev13 => ?_)
            replace h := mi_use ev13 h
            refine lv_goto (tgt := 74) hx hb dX6_kernel_65 (by decide) ?_
            have hv : v13 = rr := Option.some.inj h
            exact W.iret (v := v13) hx hb hr (fun t ht hW => ⟨_, rfl, hv, ht⟩) (fun q hq => absurd hq List.not_mem_nil) dX6_kernel_74
        · replace h := (if_pos c8).symm.trans h
          refine lv_aload_n hx hb dX6_kernel_45 rfl (lv_at hl 0 rfl) ?_
          refine va_get (D := (dC, dI)) (ci := 5) (v := .ref h0_from) (C := RX6) (T := TX6) (N := 18) hx hb hts (by decide +kernel) hown hK hP 0 rfl rfl 13 (by decide) (hts (.fieldLink RX6 31 "PointRingsModel" "from" "[I") (by decide +kernel)) (fun _ h9 => h9) rfl dX6_kernel_46 ?_
          refine lv_iload_n hx hb dX6_kernel_49 rfl (lv_at hl 1 rfl) ?_
          have hi14 : ¬ (a0 < 0 ∨ 24 ≤ a0.toNatClampNeg) := fun hz => absurd ((if_pos hz).symm.trans h) (fun hh => nomatch hh)
          replace h := (if_neg hi14).symm.trans h
          refine va_iald hx hb hK hP 1 0 rfl rfl hi14 dX6_kernel_50 ?_
          refine lv_topi (fun v15 ev15 => ?_)
          replace h := mi_use ev15 h
          refine lv_goto (tgt := 74) hx hb dX6_kernel_51 (by decide) ?_
          have hv : v15 = rr := Option.some.inj h
          exact W.iret (v := v15) hx hb hr (fun t ht hW => ⟨_, rfl, hv, ht⟩) (fun q hq => absurd hq List.not_mem_nil) dX6_kernel_74
      · replace h := (if_pos c7).symm.trans h
        refine lv_bipush (v := (-2)) hx hb dX6_kernel_38 (by decide) ?_
        have hv : (-2) = rr := Option.some.inj h
        exact W.iret (v := (-2)) hx hb hr (fun t ht hW => ⟨_, rfl, hv, ht⟩) (fun q hq => absurd hq List.not_mem_nil) dX6_kernel_40
def mX6_over_b13 (N : Nat) (a1 : Int32) (st : Int64 × Int64 × Int32) : Option ((Int64 × Int64 × Int32) ⊕ (Int64 × Int64 × Int32)) :=
  match st with
  | (x5, x6, x7) => if x7 ≤ 0 then some (.inr (x5, x6, x7)) else if (x7 &&& 1) = 1 then if a1.toInt64 = 0 then none else mi_let (mi_lrem (x5 * x6) a1.toInt64) (fun v17 => if a1.toInt64 = 0 then none else mi_let (mi_lrem (x6 * x6) a1.toInt64) (fun v19 => mi_let (x7 >>> (1 &&& 31)) (fun v20 => some (.inl (v17, v19, v20))))) else if a1.toInt64 = 0 then none else mi_let (mi_lrem (x6 * x6) a1.toInt64) (fun v14 => mi_let (x7 >>> (1 &&& 31)) (fun v15 => some (.inl (x5, v14, v15))))
def mX6_over (N : Nat) (a0 : Int32) (a1 : Int32) : Option (Int32) := if a1 = 0 then none else mi_let (mi_rem a0 a1) (fun v2 => mi_let (v2.toInt64) (fun v3 => mi_let (a1 - 2) (fun v4 => (mi_run (mX6_over_b13 N a1) N (1, v3, v4)).bind (fun o21 => match o21 with | (y8, y9, y10) => if a1.toInt64 = 0 then none else mi_let (mi_lrem y8 a1.toInt64) (fun v23 => some v23.toInt32)))))
abbrev rmX6_over : Room := { frames := 0, cells := 0, slots := 0, locals := 0 }
set_option maxHeartbeats 4000000 in
set_option maxRecDepth 100000 in
theorem ctX6_over (l : Launch) (N : Nat) (a0 : Int32) (a1 : Int32) (rr : Int32) (h : mX6_over N a0 a1 = some rr) : Met l yX6_over wsX6_over rmX6_over (fun v _ => v = ([.int a0, .int a1] : List Value).toArray) (vp_Si (fun r => r = rr)) 0 0 (fun _ => False) := by
  refine Met.ofW (cc := cX6_over) (maxL := 7) (ret := (some .int)) (by decide) rfl ?_
  intro p e s m args below meth c s₁ B hml hv
  subst hv
  have hx := B.exec
  have hb := B.bytes
  have hr := B.returns
  have hts := atoms_spec (ws := wsX6_over) B.pre
  have hown : s.vm.findClass RX6 = some m.cls := findClass_of_methodNamed B.named
  have hlocks := B.notSynchronized
  have hl := lv_entry ([.int a0, .int a1]) (n := 7) (Nat.le_of_ble_eq_true rfl)
  rw [lg_entry_eq]
  generalize (lg_sl ([.int a0, .int a1]) ++ List.replicate (7 - (lg_sl ([.int a0, .int a1])).length) Slot.unset).toArray = ls at hl ⊢
  have hl : lv_has ls 7 [(0, .int a0), (1, .int a1)] := hl
  dsimp only [mX6_over] at h
  refine lv_lconst (v := 1) hx hb dX6_over_0 (by decide) ?_
  refine lv_lstore_n (lv' := [(2, .long 1), (0, .int a0), (1, .int a1)]) hx hb dX6_over_1 rfl hl (by decide) rfl (fun ls hl => ?_)
  refine lv_iload_n hx hb dX6_over_2 rfl (lv_at hl 1 rfl) ?_
  refine lv_iload_n hx hb dX6_over_3 rfl (lv_at hl 2 rfl) ?_
  have hn1 : ¬ a1 = 0 := fun hz => absurd ((if_pos hz).symm.trans h) (fun hh => nomatch hh)
  replace h := (if_neg hn1).symm.trans h
  refine lv_irem hx hb dX6_over_4 hn1 ?_
  refine lv_topi (fun v2 ev2 => ?_)
  replace h := mi_use ev2 h
  refine lv_i2l hx hb dX6_over_5 rfl ?_
  refine lv_topl (fun v3 ev3 => ?_)
  replace h := mi_use ev3 h
  refine lv_lstore (lv' := [(4, .long v3), (2, .long 1), (0, .int a0), (1, .int a1)]) hx hb dX6_over_6 hl (by decide) rfl (fun ls hl => ?_)
  refine lv_iload_n hx hb dX6_over_8 rfl (lv_at hl 3 rfl) ?_
  refine lv_iconst (v := 2) hx hb dX6_over_9 (by decide) ?_
  refine lv_isub hx hb dX6_over_10 ?_
  refine lv_topi (fun v4 ev4 => ?_)
  replace h := mi_use ev4 h
  refine lv_istore (lv' := [(6, .int v4), (4, .long v3), (2, .long 1), (0, .int a0), (1, .int a1)]) hx hb dX6_over_11 hl (by decide) rfl (fun ls hl => ?_)
  have L13 : ∀ (n : Nat) (x5 : Int64) (x6 : Int64) (x7 : Int32) (o : Int64 × Int64 × Int32), mi_run (mX6_over_b13 N a1) n (x5, x6, x7) = some o → (∀ (y8 : Int64) (y9 : Int64) (y10 : Int32), o = (y8, y9, y10) → ∀ ls, lv_has ls 7 [(2, .long y8), (4, .long y9), (6, .int y10), (0, .int a0), (1, .int a1)] → W p l e (headSpec wsX6_over rmX6_over).room s m (([.int a0, .int a1] : List Value).toArray) below meth c s.heap [] 0 0 (MQ below (vp_Si (fun r => r = rr)) (([.int a0, .int a1] : List Value).toArray) s 0 0 (fun _ => False)) (F0 m 57 ls [])) → ∀ ls, lv_has ls 7 [(2, .long x5), (4, .long x6), (6, .int x7), (0, .int a0), (1, .int a1)] → W p l e (headSpec wsX6_over rmX6_over).room s m (([.int a0, .int a1] : List Value).toArray) below meth c s.heap [] 0 0 (MQ below (vp_Si (fun r => r = rr)) (([.int a0, .int a1] : List Value).toArray) s 0 0 (fun _ => False)) (F0 m 13 ls []) := by
    intro n
    induction n with
    | zero => intro x5 x6 x7 o h; exact absurd h (mi_run_0 _ _ _)
    | succ n ih =>
      intro x5 x6 x7 o h hkE ls hl
      obtain ⟨w, h, hA, hB⟩ := mi_run_s h
      dsimp only [mX6_over_b13] at h
      refine lv_iload hx hb dX6_over_13 (lv_at hl 2 rfl) ?_
      refine lv_if_le (tgt := 57) hx hb dX6_over_15 (by decide) (fun c11 => ?_) (fun c11 => ?_)
      · replace h := (if_pos c11).symm.trans h
        exact hkE _ _ _ (hB _ (Option.some.inj h).symm) ls (lv_sub hl [0, 1, 2, 3, 4] rfl)
      · replace h := (if_neg c11).symm.trans h
        refine lv_iload hx hb dX6_over_18 (lv_at hl 2 rfl) ?_
        refine lv_iconst (v := 1) hx hb dX6_over_20 (by decide) ?_
        refine lv_iand hx hb dX6_over_21 ?_
        refine lv_iconst (v := 1) hx hb dX6_over_22 (by decide) ?_
        refine lv_icmp_ne (tgt := 36) hx hb dX6_over_23 (by decide) (fun c12 => ?_) (fun c12 => ?_)
        · replace h := (if_neg c12).symm.trans h
          refine lv_lload_n hx hb dX6_over_36 rfl (lv_at hl 0 rfl) ?_
          refine lv_lstore_n (lv' := [(2, .long x5), (4, .long x6), (6, .int x7), (0, .int a0), (1, .int a1)]) hx hb dX6_over_37 rfl hl (by decide) rfl (fun ls hl => ?_)
          refine lv_lload hx hb dX6_over_38 (lv_at hl 1 rfl) ?_
          refine lv_lload hx hb dX6_over_40 (lv_at hl 1 rfl) ?_
          refine lv_lmul hx hb dX6_over_42 ?_
          refine lv_iload_n hx hb dX6_over_43 rfl (lv_at hl 4 rfl) ?_
          refine lv_i2l hx hb dX6_over_44 rfl ?_
          have hn13 : ¬ a1.toInt64 = 0 := fun hz => absurd ((if_pos hz).symm.trans h) (fun hh => nomatch hh)
          replace h := (if_neg hn13).symm.trans h
          refine lv_lrem hx hb dX6_over_45 hn13 ?_
          refine lv_topl (fun v14 ev14 => ?_)
          replace h := mi_use ev14 h
          refine lv_lstore (lv' := [(4, .long v14), (2, .long x5), (6, .int x7), (0, .int a0), (1, .int a1)]) hx hb dX6_over_46 hl (by decide) rfl (fun ls hl => ?_)
          refine lv_iload hx hb dX6_over_48 (lv_at hl 2 rfl) ?_
          refine lv_iconst (v := 1) hx hb dX6_over_50 (by decide) ?_
          refine lv_ishr hx hb dX6_over_51 ?_
          refine lv_topi (fun v15 ev15 => ?_)
          replace h := mi_use ev15 h
          refine lv_istore (lv' := [(6, .int v15), (4, .long v14), (2, .long x5), (0, .int a0), (1, .int a1)]) hx hb dX6_over_52 hl (by decide) rfl (fun ls hl => ?_)
          refine lv_goto (tgt := 13) hx hb dX6_over_54 (by decide) ?_
          exact ih _ _ _ _ (hA _ (Option.some.inj h).symm) hkE ls (lv_sub hl [2, 1, 0, 3, 4] rfl)
        · replace h := (if_pos c12).symm.trans h
          refine lv_lload_n hx hb dX6_over_26 rfl (lv_at hl 0 rfl) ?_
          refine lv_lload hx hb dX6_over_27 (lv_at hl 1 rfl) ?_
          refine lv_lmul hx hb dX6_over_29 ?_
          refine lv_iload_n hx hb dX6_over_30 rfl (lv_at hl 4 rfl) ?_
          refine lv_i2l hx hb dX6_over_31 rfl ?_
          have hn16 : ¬ a1.toInt64 = 0 := fun hz => absurd ((if_pos hz).symm.trans h) (fun hh => nomatch hh)
          replace h := (if_neg hn16).symm.trans h
          refine lv_lrem hx hb dX6_over_32 hn16 ?_
          refine lv_topl (fun v17 ev17 => ?_)
          replace h := mi_use ev17 h
          refine lv_goto (tgt := 37) hx hb dX6_over_33 (by decide) ?_
          refine lv_lstore_n (lv' := [(2, .long v17), (4, .long x6), (6, .int x7), (0, .int a0), (1, .int a1)]) hx hb dX6_over_37 rfl hl (by decide) rfl (fun ls hl => ?_)
          refine lv_lload hx hb dX6_over_38 (lv_at hl 1 rfl) ?_
          refine lv_lload hx hb dX6_over_40 (lv_at hl 1 rfl) ?_
          refine lv_lmul hx hb dX6_over_42 ?_
          refine lv_iload_n hx hb dX6_over_43 rfl (lv_at hl 4 rfl) ?_
          refine lv_i2l hx hb dX6_over_44 rfl ?_
          have hn18 : ¬ a1.toInt64 = 0 := fun hz => absurd ((if_pos hz).symm.trans h) (fun hh => nomatch hh)
          replace h := (if_neg hn18).symm.trans h
          refine lv_lrem hx hb dX6_over_45 hn18 ?_
          refine lv_topl (fun v19 ev19 => ?_)
          replace h := mi_use ev19 h
          refine lv_lstore (lv' := [(4, .long v19), (2, .long v17), (6, .int x7), (0, .int a0), (1, .int a1)]) hx hb dX6_over_46 hl (by decide) rfl (fun ls hl => ?_)
          refine lv_iload hx hb dX6_over_48 (lv_at hl 2 rfl) ?_
          refine lv_iconst (v := 1) hx hb dX6_over_50 (by decide) ?_
          refine lv_ishr hx hb dX6_over_51 ?_
          refine lv_topi (fun v20 ev20 => ?_)
          replace h := mi_use ev20 h
          refine lv_istore (lv' := [(6, .int v20), (4, .long v19), (2, .long v17), (0, .int a0), (1, .int a1)]) hx hb dX6_over_52 hl (by decide) rfl (fun ls hl => ?_)
          refine lv_goto (tgt := 13) hx hb dX6_over_54 (by decide) ?_
          exact ih _ _ _ _ (hA _ (Option.some.inj h).symm) hkE ls (lv_sub hl [2, 1, 0, 3, 4] rfl)
  obtain ⟨o21, ho21, h⟩ := Option.bind_eq_some_iff.mp h
  refine L13 N _ _ _ o21 ho21 ?_ ls (lv_sub hl [2, 1, 0, 3, 4] rfl)
  intro y8 y9 y10 eo ls hl
  subst eo
  try dsimp only at h
  refine lv_lload_n hx hb dX6_over_57 rfl (lv_at hl 0 rfl) ?_
  refine lv_iload_n hx hb dX6_over_58 rfl (lv_at hl 4 rfl) ?_
  refine lv_i2l hx hb dX6_over_59 rfl ?_
  have hn22 : ¬ a1.toInt64 = 0 := fun hz => absurd ((if_pos hz).symm.trans h) (fun hh => nomatch hh)
  replace h := (if_neg hn22).symm.trans h
  refine lv_lrem hx hb dX6_over_60 hn22 ?_
  refine lv_topl (fun v23 ev23 => ?_)
  replace h := mi_use ev23 h
  refine lv_l2i hx hb dX6_over_61 rfl ?_
  have hv : v23.toInt32 = rr := Option.some.inj h
  exact W.iret (v := v23.toInt32) hx hb hr (fun t ht hW => ⟨_, rfl, hv, ht⟩) (fun q hq => absurd hq List.not_mem_nil) dX6_over_62
def mX6_sign (N : Nat) (t_p : Int32) (t_a : Int32) (t_b : Int32) (t_rooted : Int32) (t_pointMany : Int32) (t_curves : Int32) (t_inverses : Nat → Int32) (t_roots : Nat → Int32) (t_points : Nat → Int32) (t_ahead : Nat → Int32) (t_ps : Nat → Int32) (t_as : Nat → Int32) (t_bs : Nat → Int32) (a0 : Int32) (a1 : Int32) (a2 : Int32) (a3 : Int32) (a4 : Int32) (a5 : Int32) : Option (Int32 × Int32 × Int32 × Int32 × Int32 × Int32 × (Nat → Int32) × (Nat → Int32) × (Nat → Int32) × (Nat → Int32)) := (mX6_has N t_p t_a t_b t_rooted t_pointMany t_curves t_inverses t_roots t_ps t_as t_bs a0).bind (fun r1 => match r1 with | (r9, u2, u3, u4, u5, u6, f7, f8) => if r9 = 0 then some ((-2), u2, u3, u4, u5, u6, f7, f8, t_points, t_ahead) else (mX6_isPoint N u2 u3 u4 a1).bind (fun r11 => if r11 = 0 then some ((-2), u2, u3, u4, u5, u6, f7, f8, t_points, t_ahead) else (mX6_in N a5.toInt64 0 1).bind (fun r13 => if r13 = 0 then some ((-2), u2, u3, u4, u5, u6, f7, f8, t_points, t_ahead) else if 0 ≤ a4 then (mX6_orderOf N u2 u3 u4 u6 f7 f8 t_points t_ahead a1).bind (fun r16 => match r16 with | (r20, u17, f18, f19) => (mX6_isPrime N r20).bind (fun r21 => if r21 = 0 then some ((-2), u2, u3, u4, u5, u17, f7, f8, f18, f19) else (mX6_in N a2.toInt64 1 ((r20 - 1).toInt64)).bind (fun r23 => if r23 = 0 then some ((-2), u2, u3, u4, u5, u17, f7, f8, f18, f19) else (mX6_in N a3.toInt64 1 ((r20 - 1).toInt64)).bind (fun r25 => if r25 = 0 then some ((-2), u2, u3, u4, u5, u17, f7, f8, f18, f19) else (mX6_multiple N u2 u3 f7 a1 a3.toInt64).bind (fun r27 => mi_let (r27 / 16384) (fun v28 => if r20 = 0 then none else mi_let (mi_rem v28 r20) (fun v30 => if r20.toInt64 = 0 then none else mi_let (mi_lrem (a4.toInt64 + (v30.toInt64 * a2.toInt64)) r20.toInt64) (fun v32 => (mX6_over N a3 r20).bind (fun r33 => if r20.toInt64 = 0 then none else mi_let (mi_lrem (v32 * r33.toInt64) r20.toInt64) (fun v35 => mi_let (v35.toInt32) (fun v36 => if v30 = 0 then some ((-3), u2, u3, u4, u5, u17, f7, f8, f18, f19) else if v36 = 0 then some ((-3), u2, u3, u4, u5, u17, f7, f8, f18, f19) else if a5 = 0 then some (v30, u2, u3, u4, u5, u17, f7, f8, f18, f19) else some (v36, u2, u3, u4, u5, u17, f7, f8, f18, f19)))))))))))) else some ((-2), u2, u3, u4, u5, u6, f7, f8, t_points, t_ahead))))
abbrev rmX6_sign : Room := { frames := 4, cells := 0, slots := 0, locals := 102 }
set_option maxHeartbeats 4000000 in
set_option maxRecDepth 100000 in
theorem ctX6_sign (l : Launch) (N : Nat) (dC : Nat → ClassId) (dI : Nat → Nat → Nat) (sz : Nat) (h0 : Nat) (h0_inverses : Nat) (h0_roots : Nat) (h0_points : Nat) (h0_ahead : Nat) (h0_ps : Nat) (h0_as : Nat) (h0_bs : Nat) (h0_from : Nat) (h0_kernelPoint : Nat) (h0_kernelOrder : Nat) (h0_marked : Nat) (h0_seen : Nat) (k_t_inverses : ClassId) (k_t_roots : ClassId) (k_t_points : ClassId) (k_t_ahead : ClassId) (k_t_ps : ClassId) (k_t_as : ClassId) (k_t_bs : ClassId) (t_p : Int32) (t_a : Int32) (t_b : Int32) (t_rooted : Int32) (t_pointMany : Int32) (t_curves : Int32) (t_inverses : Nat → Int32) (t_roots : Nat → Int32) (t_points : Nat → Int32) (t_ahead : Nat → Int32) (t_ps : Nat → Int32) (t_as : Nat → Int32) (t_bs : Nat → Int32) (a0 : Int32) (a1 : Int32) (a2 : Int32) (a3 : Int32) (a4 : Int32) (a5 : Int32) (rr : Int32 × Int32 × Int32 × Int32 × Int32 × Int32 × (Nat → Int32) × (Nat → Int32) × (Nat → Int32) × (Nat → Int32)) (h : mX6_sign N t_p t_a t_b t_rooted t_pointMany t_curves t_inverses t_roots t_points t_ahead t_ps t_as t_bs a0 a1 a2 a3 a4 a5 = some rr) : Met l yX6_sign wsX6_sign rmX6_sign (va_Pc [.ref h0, .int a0, .int a1, .int a2, .int a3, .int a4, .int a5] (fun U => U.heap.size = sz ∧ va_P (dC, dI) vwCl [(h0, .inr (5, [.int t_p, .int t_a, .int t_b, .ref h0_inverses, .ref h0_roots, .int t_rooted, .ref h0_points, .int t_pointMany, .ref h0_ahead, .int t_curves, .ref h0_ps, .ref h0_as, .ref h0_bs, .ref h0_from, .ref h0_kernelPoint, .ref h0_kernelOrder, .ref h0_marked, .ref h0_seen])), (h0_inverses, .inl (k_t_inverses, 10008, .inl t_inverses)), (h0_roots, .inl (k_t_roots, 10008, .inl t_roots)), (h0_points, .inl (k_t_points, 10300, .inl t_points)), (h0_ahead, .inl (k_t_ahead, 10008, .inl t_ahead)), (h0_ps, .inl (k_t_ps, 24, .inl t_ps)), (h0_as, .inl (k_t_as, 24, .inl t_as)), (h0_bs, .inl (k_t_bs, 24, .inl t_bs))] U.heap ∧ va_K (dC, dI) vwCl [(k_t_inverses, .int), (k_t_roots, .int), (k_t_points, .int), (k_t_ahead, .int), (k_t_ps, .int), (k_t_as, .int), (k_t_bs, .int)] U ∧ nw_all U ∧ va_D (fun _ => True) [(h0, .inr (5, [.int t_p, .int t_a, .int t_b, .ref h0_inverses, .ref h0_roots, .int t_rooted, .ref h0_points, .int t_pointMany, .ref h0_ahead, .int t_curves, .ref h0_ps, .ref h0_as, .ref h0_bs, .ref h0_from, .ref h0_kernelPoint, .ref h0_kernelOrder, .ref h0_marked, .ref h0_seen])), (h0_inverses, .inl (k_t_inverses, 10008, .inl t_inverses)), (h0_roots, .inl (k_t_roots, 10008, .inl t_roots)), (h0_points, .inl (k_t_points, 10300, .inl t_points)), (h0_ahead, .inl (k_t_ahead, 10008, .inl t_ahead)), (h0_ps, .inl (k_t_ps, 24, .inl t_ps)), (h0_as, .inl (k_t_as, 24, .inl t_as)), (h0_bs, .inl (k_t_bs, 24, .inl t_bs))])) (va_Qi (fun (r : Int32) (u : Int32 × Int32 × Int32 × Int32 × Int32 × (Nat → Int32) × (Nat → Int32) × (Nat → Int32) × (Nat → Int32)) => (r, u) = rr) (fun (u : Int32 × Int32 × Int32 × Int32 × Int32 × (Nat → Int32) × (Nat → Int32) × (Nat → Int32) × (Nat → Int32)) t => match u with | (u0, u1, u2, u3, u4, u5, u6, u7, u8) => va_P (dC, dI) vwCl [(h0, .inr (5, [.int u0, .int u1, .int u2, .ref h0_inverses, .ref h0_roots, .int u3, .ref h0_points, .int u4, .ref h0_ahead, .int t_curves, .ref h0_ps, .ref h0_as, .ref h0_bs, .ref h0_from, .ref h0_kernelPoint, .ref h0_kernelOrder, .ref h0_marked, .ref h0_seen])), (h0_inverses, .inl (k_t_inverses, 10008, .inl u5)), (h0_roots, .inl (k_t_roots, 10008, .inl u6)), (h0_points, .inl (k_t_points, 10300, .inl u7)), (h0_ahead, .inl (k_t_ahead, 10008, .inl u8)), (h0_ps, .inl (k_t_ps, 24, .inl t_ps)), (h0_as, .inl (k_t_as, 24, .inl t_as)), (h0_bs, .inl (k_t_bs, 24, .inl t_bs))] t.heap ∧ va_K (dC, dI) vwCl [(k_t_inverses, .int), (k_t_roots, .int), (k_t_points, .int), (k_t_ahead, .int), (k_t_ps, .int), (k_t_as, .int), (k_t_bs, .int)] t ∧ va_D (va_A [(h0, .inr (5, [.int t_p, .int t_a, .int t_b, .ref h0_inverses, .ref h0_roots, .int t_rooted, .ref h0_points, .int t_pointMany, .ref h0_ahead, .int t_curves, .ref h0_ps, .ref h0_as, .ref h0_bs, .ref h0_from, .ref h0_kernelPoint, .ref h0_kernelOrder, .ref h0_marked, .ref h0_seen])), (h0_inverses, .inl (k_t_inverses, 10008, .inl t_inverses)), (h0_roots, .inl (k_t_roots, 10008, .inl t_roots)), (h0_points, .inl (k_t_points, 10300, .inl t_points)), (h0_ahead, .inl (k_t_ahead, 10008, .inl t_ahead)), (h0_ps, .inl (k_t_ps, 24, .inl t_ps)), (h0_as, .inl (k_t_as, 24, .inl t_as)), (h0_bs, .inl (k_t_bs, 24, .inl t_bs))] sz) [(h0, .inr (5, [.int u0, .int u1, .int u2, .ref h0_inverses, .ref h0_roots, .int u3, .ref h0_points, .int u4, .ref h0_ahead, .int t_curves, .ref h0_ps, .ref h0_as, .ref h0_bs, .ref h0_from, .ref h0_kernelPoint, .ref h0_kernelOrder, .ref h0_marked, .ref h0_seen])), (h0_inverses, .inl (k_t_inverses, 10008, .inl u5)), (h0_roots, .inl (k_t_roots, 10008, .inl u6)), (h0_points, .inl (k_t_points, 10300, .inl u7)), (h0_ahead, .inl (k_t_ahead, 10008, .inl u8)), (h0_ps, .inl (k_t_ps, 24, .inl t_ps)), (h0_as, .inl (k_t_as, 24, .inl t_as)), (h0_bs, .inl (k_t_bs, 24, .inl t_bs))]) (va_A [(h0, .inr (5, [.int t_p, .int t_a, .int t_b, .ref h0_inverses, .ref h0_roots, .int t_rooted, .ref h0_points, .int t_pointMany, .ref h0_ahead, .int t_curves, .ref h0_ps, .ref h0_as, .ref h0_bs, .ref h0_from, .ref h0_kernelPoint, .ref h0_kernelOrder, .ref h0_marked, .ref h0_seen])), (h0_inverses, .inl (k_t_inverses, 10008, .inl t_inverses)), (h0_roots, .inl (k_t_roots, 10008, .inl t_roots)), (h0_points, .inl (k_t_points, 10300, .inl t_points)), (h0_ahead, .inl (k_t_ahead, 10008, .inl t_ahead)), (h0_ps, .inl (k_t_ps, 24, .inl t_ps)), (h0_as, .inl (k_t_as, 24, .inl t_as)), (h0_bs, .inl (k_t_bs, 24, .inl t_bs))] sz)) 0 0 (va_A [(h0, .inr (5, [.int t_p, .int t_a, .int t_b, .ref h0_inverses, .ref h0_roots, .int t_rooted, .ref h0_points, .int t_pointMany, .ref h0_ahead, .int t_curves, .ref h0_ps, .ref h0_as, .ref h0_bs, .ref h0_from, .ref h0_kernelPoint, .ref h0_kernelOrder, .ref h0_marked, .ref h0_seen])), (h0_inverses, .inl (k_t_inverses, 10008, .inl t_inverses)), (h0_roots, .inl (k_t_roots, 10008, .inl t_roots)), (h0_points, .inl (k_t_points, 10300, .inl t_points)), (h0_ahead, .inl (k_t_ahead, 10008, .inl t_ahead)), (h0_ps, .inl (k_t_ps, 24, .inl t_ps)), (h0_as, .inl (k_t_as, 24, .inl t_as)), (h0_bs, .inl (k_t_bs, 24, .inl t_bs))] sz) := by
  refine Met.ofW (cc := cX6_sign) (maxL := 10) (ret := (some .int)) (by decide) rfl ?_
  intro p e s m args below meth c s₁ B hml hv
  obtain ⟨rfl, hsz, hP, hK, hN, hD0⟩ := hv
  have hx := B.exec
  have hb := B.bytes
  have hr := B.returns
  have hts := atoms_spec (ws := wsX6_sign) B.pre
  have hown : s.vm.findClass RX6 = some m.cls := findClass_of_methodNamed B.named
  have hlocks := B.notSynchronized
  subst hsz
  have hD := hD0.self (sz := s.heap.size)
  generalize hAe : va_A [(h0, .inr (5, [.int t_p, .int t_a, .int t_b, .ref h0_inverses, .ref h0_roots, .int t_rooted, .ref h0_points, .int t_pointMany, .ref h0_ahead, .int t_curves, .ref h0_ps, .ref h0_as, .ref h0_bs, .ref h0_from, .ref h0_kernelPoint, .ref h0_kernelOrder, .ref h0_marked, .ref h0_seen])), (h0_inverses, .inl (k_t_inverses, 10008, .inl t_inverses)), (h0_roots, .inl (k_t_roots, 10008, .inl t_roots)), (h0_points, .inl (k_t_points, 10300, .inl t_points)), (h0_ahead, .inl (k_t_ahead, 10008, .inl t_ahead)), (h0_ps, .inl (k_t_ps, 24, .inl t_ps)), (h0_as, .inl (k_t_as, 24, .inl t_as)), (h0_bs, .inl (k_t_bs, 24, .inl t_bs))] s.heap.size = A at hD ⊢
  have hA0 : ∀ q : Nat, s.heap.size ≤ q → A q := fun q h => by rw [← hAe]; exact Or.inr h
  have hS : va_S A s.heap s.heap [] := va_S.rf
  have hP : va_P (dC, dI) vwCl [(h0, .inr (5, [.int t_p, .int t_a, .int t_b, .ref h0_inverses, .ref h0_roots, .int t_rooted, .ref h0_points, .int t_pointMany, .ref h0_ahead, .int t_curves, .ref h0_ps, .ref h0_as, .ref h0_bs, .ref h0_from, .ref h0_kernelPoint, .ref h0_kernelOrder, .ref h0_marked, .ref h0_seen])), (h0_inverses, .inl (k_t_inverses, 10008, .inl t_inverses)), (h0_roots, .inl (k_t_roots, 10008, .inl t_roots)), (h0_points, .inl (k_t_points, 10300, .inl t_points)), (h0_ahead, .inl (k_t_ahead, 10008, .inl t_ahead)), (h0_ps, .inl (k_t_ps, 24, .inl t_ps)), (h0_as, .inl (k_t_as, 24, .inl t_as)), (h0_bs, .inl (k_t_bs, 24, .inl t_bs))] s.heap := hP
  have hl := lv_entry ([.ref h0, .int a0, .int a1, .int a2, .int a3, .int a4, .int a5]) (n := 10) (Nat.le_of_ble_eq_true rfl)
  rw [lg_entry_eq]
  generalize (lg_sl ([.ref h0, .int a0, .int a1, .int a2, .int a3, .int a4, .int a5]) ++ List.replicate (10 - (lg_sl ([.ref h0, .int a0, .int a1, .int a2, .int a3, .int a4, .int a5])).length) Slot.unset).toArray = ls at hl ⊢
  have hl : lv_has ls 10 [(0, .ref h0), (1, .int a0), (2, .int a1), (3, .int a2), (4, .int a3), (5, .int a4), (6, .int a5)] := hl
  dsimp only [mX6_sign] at h
  refine lv_aload_n hx hb dX6_sign_0 rfl (lv_at hl 0 rfl) ?_
  refine lv_iload_n hx hb dX6_sign_1 rfl (lv_at hl 1 rfl) ?_
  obtain ⟨r1, hr1, h⟩ := Option.bind_eq_some_iff.mp h
  have hPc := hP.sub (ws' := [(h0, .inr (5, [.int t_p, .int t_a, .int t_b, .ref h0_inverses, .ref h0_roots, .int t_rooted, .ref h0_points, .int t_pointMany, .ref h0_ahead, .int t_curves, .ref h0_ps, .ref h0_as, .ref h0_bs, .ref h0_from, .ref h0_kernelPoint, .ref h0_kernelOrder, .ref h0_marked, .ref h0_seen])), (h0_inverses, .inl (k_t_inverses, 10008, .inl t_inverses)), (h0_roots, .inl (k_t_roots, 10008, .inl t_roots)), (h0_ps, .inl (k_t_ps, 24, .inl t_ps)), (h0_as, .inl (k_t_as, 24, .inl t_as)), (h0_bs, .inl (k_t_bs, 24, .inl t_bs))]) [0, 1, 2, 5, 6, 7] rfl
  have hDc := hD.sub (ws' := [(h0, .inr (5, [.int t_p, .int t_a, .int t_b, .ref h0_inverses, .ref h0_roots, .int t_rooted, .ref h0_points, .int t_pointMany, .ref h0_ahead, .int t_curves, .ref h0_ps, .ref h0_as, .ref h0_bs, .ref h0_from, .ref h0_kernelPoint, .ref h0_kernelOrder, .ref h0_marked, .ref h0_seen])), (h0_inverses, .inl (k_t_inverses, 10008, .inl t_inverses)), (h0_roots, .inl (k_t_roots, 10008, .inl t_roots)), (h0_ps, .inl (k_t_ps, 24, .inl t_ps)), (h0_as, .inl (k_t_as, 24, .inl t_as)), (h0_bs, .inl (k_t_bs, 24, .inl t_bs))]) [0, 1, 2, 5, 6, 7] (by decide) rfl
  have hKc := hK.sub (tys' := [(k_t_inverses, .int), (k_t_roots, .int), (k_t_ps, .int), (k_t_as, .int), (k_t_bs, .int)]) [0, 1, 4, 5, 6] rfl
  have hFc := va_free (wc := [(h0, .inr (5, [.int t_p, .int t_a, .int t_b, .ref h0_inverses, .ref h0_roots, .int t_rooted, .ref h0_points, .int t_pointMany, .ref h0_ahead, .int t_curves, .ref h0_ps, .ref h0_as, .ref h0_bs, .ref h0_from, .ref h0_kernelPoint, .ref h0_kernelOrder, .ref h0_marked, .ref h0_seen])), (h0_inverses, .inl (k_t_inverses, 10008, .inl t_inverses)), (h0_roots, .inl (k_t_roots, 10008, .inl t_roots)), (h0_ps, .inl (k_t_ps, 24, .inl t_ps)), (h0_as, .inl (k_t_as, 24, .inl t_as)), (h0_bs, .inl (k_t_bs, 24, .inl t_bs))]) hD hS hA0 [0, 1, 2, 5, 6, 7] rfl
  refine va_calli (va_runV (As := [.int a0]) (rest := []) ⟨hx, hb, hml, hown, hts⟩ (ctX6_has l N dC dI _ h0 h0_inverses h0_roots h0_ps h0_as h0_bs h0_points h0_ahead h0_from h0_kernelPoint h0_kernelOrder h0_marked h0_seen k_t_inverses k_t_roots k_t_ps k_t_as k_t_bs t_p t_a t_b t_rooted t_pointMany t_curves t_inverses t_roots t_ps t_as t_bs a0 r1 hr1) (cwV 1 hts gX6_sign_X6_has rfl rfl rfl (by decide +kernel) ⟨Nat.le_of_ble_eq_true rfl, Nat.le_of_ble_eq_true rfl⟩) ⟨fun a U g mk q => by obtain ⟨q0, q1, qP, qK, qN, qD⟩ := q; exact ⟨q0, q1, qP, va_K.moved (u := U) (U := U.calling g mk a) (Vm.Alike.refl U.vm) qK, nw_same (u := U) (U := U.calling g mk a) rfl qN, qD⟩, va_recv hKc hPc (ci := 5) (q0 := 0) rfl rfl, fun U hU hW => ⟨rfl, by rw [hU], by rw [hU]; exact hPc, va_K.moved hW.alike hKc, nw_warm hW hN, hDc.weaken (fun _ _ _ _ => trivial)⟩⟩ rfl rfl hl.1 rfl (lv_room (Nat.le_of_ble_eq_true rfl)) dX6_sign_2 ⟨Nat.le_of_ble_eq_true rfl, Nat.le_of_ble_eq_true rfl⟩) hS (fun q _ h => hFc q h) hFc (fun rz u t H1 locs ht hvm hw hB1 hz1 hk1 hS => ?_)
  obtain ⟨u2, u3, u4, u5, u6, f7, f8⟩ := u
  obtain ⟨hP1, hK1, hD1⟩ := hB1
  rw [ht] at hP1
  have hK1 := va_K.moved hvm.symm hK1
  obtain ⟨r9, rfl⟩ : ∃ z, z = rz := ⟨_, rfl⟩
  subst hw
  try dsimp only at h
  obtain ⟨hP, hD⟩ := va_join (wr := [(h0_points, .inl (k_t_points, 10300, .inl t_points)), (h0_ahead, .inl (k_t_ahead, 10008, .inl t_ahead))]) (w1 := [(h0, .inr (5, [.int u2, .int u3, .int u4, .ref h0_inverses, .ref h0_roots, .int u5, .ref h0_points, .int u6, .ref h0_ahead, .int t_curves, .ref h0_ps, .ref h0_as, .ref h0_bs, .ref h0_from, .ref h0_kernelPoint, .ref h0_kernelOrder, .ref h0_marked, .ref h0_seen])), (h0_inverses, .inl (k_t_inverses, 10008, .inl f7)), (h0_roots, .inl (k_t_roots, 10008, .inl f8)), (h0_ps, .inl (k_t_ps, 24, .inl t_ps)), (h0_as, .inl (k_t_as, 24, .inl t_as)), (h0_bs, .inl (k_t_bs, 24, .inl t_bs))]) hP hD [0, 1, 2, 5, 6, 7] [3, 4] rfl rfl (by decide) (by decide) hk1 hFc hP1 hD1
  generalize H1 = H at hP hS ⊢
  have hP := hP.sub (ws' := [(h0, .inr (5, [.int u2, .int u3, .int u4, .ref h0_inverses, .ref h0_roots, .int u5, .ref h0_points, .int u6, .ref h0_ahead, .int t_curves, .ref h0_ps, .ref h0_as, .ref h0_bs, .ref h0_from, .ref h0_kernelPoint, .ref h0_kernelOrder, .ref h0_marked, .ref h0_seen])), (h0_inverses, .inl (k_t_inverses, 10008, .inl f7)), (h0_roots, .inl (k_t_roots, 10008, .inl f8)), (h0_points, .inl (k_t_points, 10300, .inl t_points)), (h0_ahead, .inl (k_t_ahead, 10008, .inl t_ahead)), (h0_ps, .inl (k_t_ps, 24, .inl t_ps)), (h0_as, .inl (k_t_as, 24, .inl t_as)), (h0_bs, .inl (k_t_bs, 24, .inl t_bs))]) [2, 3, 4, 0, 1, 5, 6, 7] rfl
  have hD := hD.sub (ws' := [(h0, .inr (5, [.int u2, .int u3, .int u4, .ref h0_inverses, .ref h0_roots, .int u5, .ref h0_points, .int u6, .ref h0_ahead, .int t_curves, .ref h0_ps, .ref h0_as, .ref h0_bs, .ref h0_from, .ref h0_kernelPoint, .ref h0_kernelOrder, .ref h0_marked, .ref h0_seen])), (h0_inverses, .inl (k_t_inverses, 10008, .inl f7)), (h0_roots, .inl (k_t_roots, 10008, .inl f8)), (h0_points, .inl (k_t_points, 10300, .inl t_points)), (h0_ahead, .inl (k_t_ahead, 10008, .inl t_ahead)), (h0_ps, .inl (k_t_ps, 24, .inl t_ps)), (h0_as, .inl (k_t_as, 24, .inl t_as)), (h0_bs, .inl (k_t_bs, 24, .inl t_bs))]) [2, 3, 4, 0, 1, 5, 6, 7] (by decide) rfl
  refine lv_if_eq (tgt := 32) hx hb dX6_sign_5 (by decide) (fun c10 => ?_) (fun c10 => ?_)
  · replace h := (if_pos c10).symm.trans h
    refine lv_bipush (v := (-2)) hx hb dX6_sign_32 (by decide) ?_
    have hv : ((-2), u2, u3, u4, u5, u6, f7, f8, t_points, t_ahead) = rr := Option.some.inj h
    have hP9 := hP.sub (ws' := [(h0, .inr (5, [.int u2, .int u3, .int u4, .ref h0_inverses, .ref h0_roots, .int u5, .ref h0_points, .int u6, .ref h0_ahead, .int t_curves, .ref h0_ps, .ref h0_as, .ref h0_bs, .ref h0_from, .ref h0_kernelPoint, .ref h0_kernelOrder, .ref h0_marked, .ref h0_seen])), (h0_inverses, .inl (k_t_inverses, 10008, .inl f7)), (h0_roots, .inl (k_t_roots, 10008, .inl f8)), (h0_points, .inl (k_t_points, 10300, .inl t_points)), (h0_ahead, .inl (k_t_ahead, 10008, .inl t_ahead)), (h0_ps, .inl (k_t_ps, 24, .inl t_ps)), (h0_as, .inl (k_t_as, 24, .inl t_as)), (h0_bs, .inl (k_t_bs, 24, .inl t_bs))]) [0, 1, 2, 3, 4, 5, 6, 7] rfl
    have hD9 := hD.sub (ws' := [(h0, .inr (5, [.int u2, .int u3, .int u4, .ref h0_inverses, .ref h0_roots, .int u5, .ref h0_points, .int u6, .ref h0_ahead, .int t_curves, .ref h0_ps, .ref h0_as, .ref h0_bs, .ref h0_from, .ref h0_kernelPoint, .ref h0_kernelOrder, .ref h0_marked, .ref h0_seen])), (h0_inverses, .inl (k_t_inverses, 10008, .inl f7)), (h0_roots, .inl (k_t_roots, 10008, .inl f8)), (h0_points, .inl (k_t_points, 10300, .inl t_points)), (h0_ahead, .inl (k_t_ahead, 10008, .inl t_ahead)), (h0_ps, .inl (k_t_ps, 24, .inl t_ps)), (h0_as, .inl (k_t_as, 24, .inl t_as)), (h0_bs, .inl (k_t_bs, 24, .inl t_bs))]) [0, 1, 2, 3, 4, 5, 6, 7] (by decide) rfl
    have hK9 := hK.sub (tys' := [(k_t_inverses, .int), (k_t_roots, .int), (k_t_points, .int), (k_t_ahead, .int), (k_t_ps, .int), (k_t_as, .int), (k_t_bs, .int)]) [0, 1, 2, 3, 4, 5, 6] rfl
    exact W.iret (v := (-2)) hx hb hr (fun t ht hW => ⟨⟨(-2), (u2, u3, u4, u5, u6, f7, f8, t_points, t_ahead), rfl, hv, by rw [ht]; exact hP9, va_K.moved hW.alike hK9, hD9⟩, hS.F ht⟩) hS.2.2 dX6_sign_34
  · replace h := (if_neg c10).symm.trans h
    refine lv_aload_n hx hb dX6_sign_8 rfl (lv_at hl 0 rfl) ?_
    refine lv_iload_n hx hb dX6_sign_9 rfl (lv_at hl 2 rfl) ?_
    obtain ⟨r11, hr11, h⟩ := Option.bind_eq_some_iff.mp h
    have hPc := hP.sub (ws' := [(h0, .inr (5, [.int u2, .int u3, .int u4, .ref h0_inverses, .ref h0_roots, .int u5, .ref h0_points, .int u6, .ref h0_ahead, .int t_curves, .ref h0_ps, .ref h0_as, .ref h0_bs, .ref h0_from, .ref h0_kernelPoint, .ref h0_kernelOrder, .ref h0_marked, .ref h0_seen]))]) [0] rfl
    have hKc := hK.sub (tys' := []) [] rfl
    refine vp_callSi (W.runV (As := [.int a1]) (rest := []) ⟨hx, hb, hml, hown, hts⟩ (ctX6_isPoint l N dC dI  h0 h0_inverses h0_roots h0_points h0_ahead h0_ps h0_as h0_bs h0_from h0_kernelPoint h0_kernelOrder h0_marked h0_seen u2 u3 u4 u5 u6 t_curves a1 r11 hr11) (cwV 1 hts gX6_sign_X6_isPoint rfl rfl rfl (by decide +kernel) ⟨Nat.le_of_ble_eq_true rfl, Nat.le_of_ble_eq_true rfl⟩) ⟨fun a U g mk q => by obtain ⟨q0, qP, qK, qN⟩ := q; exact ⟨q0, qP, va_K.moved (u := U) (U := U.calling g mk a) (Vm.Alike.refl U.vm) qK, nw_same (u := U) (U := U.calling g mk a) rfl qN⟩, va_recv hKc hPc (ci := 5) (q0 := 0) rfl rfl, fun U hU hW => ⟨rfl, by rw [hU]; exact hPc, va_K.moved hW.alike hKc, nw_warm hW hN⟩⟩ rfl rfl hl.1 rfl (lv_room (Nat.le_of_ble_eq_true rfl)) dX6_sign_10 ⟨Nat.le_of_ble_eq_true rfl, Nat.le_of_ble_eq_true rfl⟩) (fun q9 eq9 => ?_)
    subst q9
    refine lv_if_eq (tgt := 32) hx hb dX6_sign_13 (by decide) (fun c12 => ?_) (fun c12 => ?_)
    · replace h := (if_pos c12).symm.trans h
      refine lv_bipush (v := (-2)) hx hb dX6_sign_32 (by decide) ?_
      have hv : ((-2), u2, u3, u4, u5, u6, f7, f8, t_points, t_ahead) = rr := Option.some.inj h
      have hP9 := hP.sub (ws' := [(h0, .inr (5, [.int u2, .int u3, .int u4, .ref h0_inverses, .ref h0_roots, .int u5, .ref h0_points, .int u6, .ref h0_ahead, .int t_curves, .ref h0_ps, .ref h0_as, .ref h0_bs, .ref h0_from, .ref h0_kernelPoint, .ref h0_kernelOrder, .ref h0_marked, .ref h0_seen])), (h0_inverses, .inl (k_t_inverses, 10008, .inl f7)), (h0_roots, .inl (k_t_roots, 10008, .inl f8)), (h0_points, .inl (k_t_points, 10300, .inl t_points)), (h0_ahead, .inl (k_t_ahead, 10008, .inl t_ahead)), (h0_ps, .inl (k_t_ps, 24, .inl t_ps)), (h0_as, .inl (k_t_as, 24, .inl t_as)), (h0_bs, .inl (k_t_bs, 24, .inl t_bs))]) [0, 1, 2, 3, 4, 5, 6, 7] rfl
      have hD9 := hD.sub (ws' := [(h0, .inr (5, [.int u2, .int u3, .int u4, .ref h0_inverses, .ref h0_roots, .int u5, .ref h0_points, .int u6, .ref h0_ahead, .int t_curves, .ref h0_ps, .ref h0_as, .ref h0_bs, .ref h0_from, .ref h0_kernelPoint, .ref h0_kernelOrder, .ref h0_marked, .ref h0_seen])), (h0_inverses, .inl (k_t_inverses, 10008, .inl f7)), (h0_roots, .inl (k_t_roots, 10008, .inl f8)), (h0_points, .inl (k_t_points, 10300, .inl t_points)), (h0_ahead, .inl (k_t_ahead, 10008, .inl t_ahead)), (h0_ps, .inl (k_t_ps, 24, .inl t_ps)), (h0_as, .inl (k_t_as, 24, .inl t_as)), (h0_bs, .inl (k_t_bs, 24, .inl t_bs))]) [0, 1, 2, 3, 4, 5, 6, 7] (by decide) rfl
      have hK9 := hK.sub (tys' := [(k_t_inverses, .int), (k_t_roots, .int), (k_t_points, .int), (k_t_ahead, .int), (k_t_ps, .int), (k_t_as, .int), (k_t_bs, .int)]) [0, 1, 2, 3, 4, 5, 6] rfl
      exact W.iret (v := (-2)) hx hb hr (fun t ht hW => ⟨⟨(-2), (u2, u3, u4, u5, u6, f7, f8, t_points, t_ahead), rfl, hv, by rw [ht]; exact hP9, va_K.moved hW.alike hK9, hD9⟩, hS.F ht⟩) hS.2.2 dX6_sign_34
    · replace h := (if_neg c12).symm.trans h
      refine lv_iload hx hb dX6_sign_16 (lv_at hl 6 rfl) ?_
      refine lv_i2l hx hb dX6_sign_18 rfl ?_
      refine lv_lconst (v := 0) hx hb dX6_sign_19 (by decide) ?_
      refine lv_lconst (v := 1) hx hb dX6_sign_20 (by decide) ?_
      obtain ⟨r13, hr13, h⟩ := Option.bind_eq_some_iff.mp h
      refine vp_callSi (W.runS (As := [.long a5.toInt64, .long 0, .long 1]) (rest := []) ⟨hx, hb, hml, hown, hts⟩ (ctX6_in l N  a5.toInt64 0 1 r13 hr13) (va_cwS 3 hts gX6_sign_X6_in rfl rfl rfl (by decide +kernel) ⟨Nat.le_of_ble_eq_true rfl, Nat.le_of_ble_eq_true rfl⟩) preEq rfl rfl hl.1 rfl (lv_room (Nat.le_of_ble_eq_true rfl)) dX6_sign_21 ⟨Nat.le_of_ble_eq_true rfl, Nat.le_of_ble_eq_true rfl⟩) (fun q9 eq9 => ?_)
      subst q9
      refine lv_if_eq (tgt := 32) hx hb dX6_sign_24 (by decide) (fun c14 => ?_) (fun c14 => ?_)
      · replace h := (if_pos c14).symm.trans h
        refine lv_bipush (v := (-2)) hx hb dX6_sign_32 (by decide) ?_
        have hv : ((-2), u2, u3, u4, u5, u6, f7, f8, t_points, t_ahead) = rr := Option.some.inj h
        have hP9 := hP.sub (ws' := [(h0, .inr (5, [.int u2, .int u3, .int u4, .ref h0_inverses, .ref h0_roots, .int u5, .ref h0_points, .int u6, .ref h0_ahead, .int t_curves, .ref h0_ps, .ref h0_as, .ref h0_bs, .ref h0_from, .ref h0_kernelPoint, .ref h0_kernelOrder, .ref h0_marked, .ref h0_seen])), (h0_inverses, .inl (k_t_inverses, 10008, .inl f7)), (h0_roots, .inl (k_t_roots, 10008, .inl f8)), (h0_points, .inl (k_t_points, 10300, .inl t_points)), (h0_ahead, .inl (k_t_ahead, 10008, .inl t_ahead)), (h0_ps, .inl (k_t_ps, 24, .inl t_ps)), (h0_as, .inl (k_t_as, 24, .inl t_as)), (h0_bs, .inl (k_t_bs, 24, .inl t_bs))]) [0, 1, 2, 3, 4, 5, 6, 7] rfl
        have hD9 := hD.sub (ws' := [(h0, .inr (5, [.int u2, .int u3, .int u4, .ref h0_inverses, .ref h0_roots, .int u5, .ref h0_points, .int u6, .ref h0_ahead, .int t_curves, .ref h0_ps, .ref h0_as, .ref h0_bs, .ref h0_from, .ref h0_kernelPoint, .ref h0_kernelOrder, .ref h0_marked, .ref h0_seen])), (h0_inverses, .inl (k_t_inverses, 10008, .inl f7)), (h0_roots, .inl (k_t_roots, 10008, .inl f8)), (h0_points, .inl (k_t_points, 10300, .inl t_points)), (h0_ahead, .inl (k_t_ahead, 10008, .inl t_ahead)), (h0_ps, .inl (k_t_ps, 24, .inl t_ps)), (h0_as, .inl (k_t_as, 24, .inl t_as)), (h0_bs, .inl (k_t_bs, 24, .inl t_bs))]) [0, 1, 2, 3, 4, 5, 6, 7] (by decide) rfl
        have hK9 := hK.sub (tys' := [(k_t_inverses, .int), (k_t_roots, .int), (k_t_points, .int), (k_t_ahead, .int), (k_t_ps, .int), (k_t_as, .int), (k_t_bs, .int)]) [0, 1, 2, 3, 4, 5, 6] rfl
        exact W.iret (v := (-2)) hx hb hr (fun t ht hW => ⟨⟨(-2), (u2, u3, u4, u5, u6, f7, f8, t_points, t_ahead), rfl, hv, by rw [ht]; exact hP9, va_K.moved hW.alike hK9, hD9⟩, hS.F ht⟩) hS.2.2 dX6_sign_34
      · replace h := (if_neg c14).symm.trans h
        refine lv_iload hx hb dX6_sign_27 (lv_at hl 5 rfl) ?_
        refine lv_if_ge (tgt := 35) hx hb dX6_sign_29 (by decide) (fun c15 => ?_) (fun c15 => ?_)
        · replace h := (if_pos c15).symm.trans h
          refine lv_aload_n hx hb dX6_sign_35 rfl (lv_at hl 0 rfl) ?_
          refine lv_iload_n hx hb dX6_sign_36 rfl (lv_at hl 2 rfl) ?_
          obtain ⟨r16, hr16, h⟩ := Option.bind_eq_some_iff.mp h
          have hPc := hP.sub (ws' := [(h0, .inr (5, [.int u2, .int u3, .int u4, .ref h0_inverses, .ref h0_roots, .int u5, .ref h0_points, .int u6, .ref h0_ahead, .int t_curves, .ref h0_ps, .ref h0_as, .ref h0_bs, .ref h0_from, .ref h0_kernelPoint, .ref h0_kernelOrder, .ref h0_marked, .ref h0_seen])), (h0_inverses, .inl (k_t_inverses, 10008, .inl f7)), (h0_roots, .inl (k_t_roots, 10008, .inl f8)), (h0_points, .inl (k_t_points, 10300, .inl t_points)), (h0_ahead, .inl (k_t_ahead, 10008, .inl t_ahead))]) [0, 1, 2, 3, 4] rfl
          have hDc := hD.sub (ws' := [(h0, .inr (5, [.int u2, .int u3, .int u4, .ref h0_inverses, .ref h0_roots, .int u5, .ref h0_points, .int u6, .ref h0_ahead, .int t_curves, .ref h0_ps, .ref h0_as, .ref h0_bs, .ref h0_from, .ref h0_kernelPoint, .ref h0_kernelOrder, .ref h0_marked, .ref h0_seen])), (h0_inverses, .inl (k_t_inverses, 10008, .inl f7)), (h0_roots, .inl (k_t_roots, 10008, .inl f8)), (h0_points, .inl (k_t_points, 10300, .inl t_points)), (h0_ahead, .inl (k_t_ahead, 10008, .inl t_ahead))]) [0, 1, 2, 3, 4] (by decide) rfl
          have hKc := hK.sub (tys' := [(k_t_inverses, .int), (k_t_roots, .int), (k_t_points, .int), (k_t_ahead, .int)]) [0, 1, 2, 3] rfl
          have hFc := va_free (wc := [(h0, .inr (5, [.int u2, .int u3, .int u4, .ref h0_inverses, .ref h0_roots, .int u5, .ref h0_points, .int u6, .ref h0_ahead, .int t_curves, .ref h0_ps, .ref h0_as, .ref h0_bs, .ref h0_from, .ref h0_kernelPoint, .ref h0_kernelOrder, .ref h0_marked, .ref h0_seen])), (h0_inverses, .inl (k_t_inverses, 10008, .inl f7)), (h0_roots, .inl (k_t_roots, 10008, .inl f8)), (h0_points, .inl (k_t_points, 10300, .inl t_points)), (h0_ahead, .inl (k_t_ahead, 10008, .inl t_ahead))]) hD hS hA0 [0, 1, 2, 3, 4] rfl
          refine va_calli (va_runV (As := [.int a1]) (rest := []) ⟨hx, hb, hml, hown, hts⟩ (ctX6_orderOf l N dC dI _ h0 h0_inverses h0_roots h0_points h0_ahead h0_ps h0_as h0_bs h0_from h0_kernelPoint h0_kernelOrder h0_marked h0_seen k_t_inverses k_t_roots k_t_points k_t_ahead u2 u3 u4 u5 u6 t_curves f7 f8 t_points t_ahead a1 r16 hr16) (cwV 1 hts gX6_sign_X6_orderOf rfl rfl rfl (by decide +kernel) ⟨Nat.le_of_ble_eq_true rfl, Nat.le_of_ble_eq_true rfl⟩) ⟨fun a U g mk q => by obtain ⟨q0, q1, qP, qK, qN, qD⟩ := q; exact ⟨q0, q1, qP, va_K.moved (u := U) (U := U.calling g mk a) (Vm.Alike.refl U.vm) qK, nw_same (u := U) (U := U.calling g mk a) rfl qN, qD⟩, va_recv hKc hPc (ci := 5) (q0 := 0) rfl rfl, fun U hU hW => ⟨rfl, by rw [hU], by rw [hU]; exact hPc, va_K.moved hW.alike hKc, nw_warm hW hN, hDc.weaken (fun _ _ _ _ => trivial)⟩⟩ rfl rfl hl.1 rfl (lv_room (Nat.le_of_ble_eq_true rfl)) dX6_sign_37 ⟨Nat.le_of_ble_eq_true rfl, Nat.le_of_ble_eq_true rfl⟩) hS (fun q _ h => hFc q h) hFc (fun rz u t H1 locs ht hvm hw hB1 hz1 hk1 hS => ?_)
          obtain ⟨u17, f18, f19⟩ := u
          obtain ⟨hP1, hK1, hD1⟩ := hB1
          rw [ht] at hP1
          have hK1 := va_K.moved hvm.symm hK1
          obtain ⟨r20, rfl⟩ : ∃ z, z = rz := ⟨_, rfl⟩
          subst hw
          try dsimp only at h
          obtain ⟨hP, hD⟩ := va_join (wr := [(h0_ps, .inl (k_t_ps, 24, .inl t_ps)), (h0_as, .inl (k_t_as, 24, .inl t_as)), (h0_bs, .inl (k_t_bs, 24, .inl t_bs))]) (w1 := [(h0, .inr (5, [.int u2, .int u3, .int u4, .ref h0_inverses, .ref h0_roots, .int u5, .ref h0_points, .int u17, .ref h0_ahead, .int t_curves, .ref h0_ps, .ref h0_as, .ref h0_bs, .ref h0_from, .ref h0_kernelPoint, .ref h0_kernelOrder, .ref h0_marked, .ref h0_seen])), (h0_inverses, .inl (k_t_inverses, 10008, .inl f7)), (h0_roots, .inl (k_t_roots, 10008, .inl f8)), (h0_points, .inl (k_t_points, 10300, .inl f18)), (h0_ahead, .inl (k_t_ahead, 10008, .inl f19))]) hP hD [0, 1, 2, 3, 4] [5, 6, 7] rfl rfl (by decide) (by decide) hk1 hFc hP1 hD1
          generalize H1 = H at hP hS ⊢
          have hP := hP.sub (ws' := [(h0, .inr (5, [.int u2, .int u3, .int u4, .ref h0_inverses, .ref h0_roots, .int u5, .ref h0_points, .int u17, .ref h0_ahead, .int t_curves, .ref h0_ps, .ref h0_as, .ref h0_bs, .ref h0_from, .ref h0_kernelPoint, .ref h0_kernelOrder, .ref h0_marked, .ref h0_seen])), (h0_inverses, .inl (k_t_inverses, 10008, .inl f7)), (h0_roots, .inl (k_t_roots, 10008, .inl f8)), (h0_points, .inl (k_t_points, 10300, .inl f18)), (h0_ahead, .inl (k_t_ahead, 10008, .inl f19)), (h0_ps, .inl (k_t_ps, 24, .inl t_ps)), (h0_as, .inl (k_t_as, 24, .inl t_as)), (h0_bs, .inl (k_t_bs, 24, .inl t_bs))]) [3, 4, 5, 6, 7, 0, 1, 2] rfl
          have hD := hD.sub (ws' := [(h0, .inr (5, [.int u2, .int u3, .int u4, .ref h0_inverses, .ref h0_roots, .int u5, .ref h0_points, .int u17, .ref h0_ahead, .int t_curves, .ref h0_ps, .ref h0_as, .ref h0_bs, .ref h0_from, .ref h0_kernelPoint, .ref h0_kernelOrder, .ref h0_marked, .ref h0_seen])), (h0_inverses, .inl (k_t_inverses, 10008, .inl f7)), (h0_roots, .inl (k_t_roots, 10008, .inl f8)), (h0_points, .inl (k_t_points, 10300, .inl f18)), (h0_ahead, .inl (k_t_ahead, 10008, .inl f19)), (h0_ps, .inl (k_t_ps, 24, .inl t_ps)), (h0_as, .inl (k_t_as, 24, .inl t_as)), (h0_bs, .inl (k_t_bs, 24, .inl t_bs))]) [3, 4, 5, 6, 7, 0, 1, 2] (by decide) rfl
          refine lv_istore (lv' := [(7, .int r20), (0, .ref h0), (1, .int a0), (2, .int a1), (3, .int a2), (4, .int a3), (5, .int a4), (6, .int a5)]) hx hb dX6_sign_40 hl (by decide) rfl (fun ls hl => ?_)
          refine lv_iload hx hb dX6_sign_42 (lv_at hl 0 rfl) ?_
          obtain ⟨r21, hr21, h⟩ := Option.bind_eq_some_iff.mp h
          refine vp_callSi (W.runS (As := [.int r20]) (rest := []) ⟨hx, hb, hml, hown, hts⟩ (ctX6_isPrime l N  r20 r21 hr21) (va_cwS 1 hts gX6_sign_X6_isPrime rfl rfl rfl (by decide +kernel) ⟨Nat.le_of_ble_eq_true rfl, Nat.le_of_ble_eq_true rfl⟩) preEq rfl rfl hl.1 rfl (lv_room (Nat.le_of_ble_eq_true rfl)) dX6_sign_44 ⟨Nat.le_of_ble_eq_true rfl, Nat.le_of_ble_eq_true rfl⟩) (fun q9 eq9 => ?_)
          subst q9
          refine lv_if_eq (tgt := 79) hx hb dX6_sign_47 (by decide) (fun c22 => ?_) (fun c22 => ?_)
          · replace h := (if_pos c22).symm.trans h
            refine lv_bipush (v := (-2)) hx hb dX6_sign_79 (by decide) ?_
            have hv : ((-2), u2, u3, u4, u5, u17, f7, f8, f18, f19) = rr := Option.some.inj h
            have hP9 := hP.sub (ws' := [(h0, .inr (5, [.int u2, .int u3, .int u4, .ref h0_inverses, .ref h0_roots, .int u5, .ref h0_points, .int u17, .ref h0_ahead, .int t_curves, .ref h0_ps, .ref h0_as, .ref h0_bs, .ref h0_from, .ref h0_kernelPoint, .ref h0_kernelOrder, .ref h0_marked, .ref h0_seen])), (h0_inverses, .inl (k_t_inverses, 10008, .inl f7)), (h0_roots, .inl (k_t_roots, 10008, .inl f8)), (h0_points, .inl (k_t_points, 10300, .inl f18)), (h0_ahead, .inl (k_t_ahead, 10008, .inl f19)), (h0_ps, .inl (k_t_ps, 24, .inl t_ps)), (h0_as, .inl (k_t_as, 24, .inl t_as)), (h0_bs, .inl (k_t_bs, 24, .inl t_bs))]) [0, 1, 2, 3, 4, 5, 6, 7] rfl
            have hD9 := hD.sub (ws' := [(h0, .inr (5, [.int u2, .int u3, .int u4, .ref h0_inverses, .ref h0_roots, .int u5, .ref h0_points, .int u17, .ref h0_ahead, .int t_curves, .ref h0_ps, .ref h0_as, .ref h0_bs, .ref h0_from, .ref h0_kernelPoint, .ref h0_kernelOrder, .ref h0_marked, .ref h0_seen])), (h0_inverses, .inl (k_t_inverses, 10008, .inl f7)), (h0_roots, .inl (k_t_roots, 10008, .inl f8)), (h0_points, .inl (k_t_points, 10300, .inl f18)), (h0_ahead, .inl (k_t_ahead, 10008, .inl f19)), (h0_ps, .inl (k_t_ps, 24, .inl t_ps)), (h0_as, .inl (k_t_as, 24, .inl t_as)), (h0_bs, .inl (k_t_bs, 24, .inl t_bs))]) [0, 1, 2, 3, 4, 5, 6, 7] (by decide) rfl
            have hK9 := hK.sub (tys' := [(k_t_inverses, .int), (k_t_roots, .int), (k_t_points, .int), (k_t_ahead, .int), (k_t_ps, .int), (k_t_as, .int), (k_t_bs, .int)]) [0, 1, 2, 3, 4, 5, 6] rfl
            exact W.iret (v := (-2)) hx hb hr (fun t ht hW => ⟨⟨(-2), (u2, u3, u4, u5, u17, f7, f8, f18, f19), rfl, hv, by rw [ht]; exact hP9, va_K.moved hW.alike hK9, hD9⟩, hS.F ht⟩) hS.2.2 dX6_sign_81
          · replace h := (if_neg c22).symm.trans h
            refine lv_iload_n hx hb dX6_sign_50 rfl (lv_at hl 4 rfl) ?_
            refine lv_i2l hx hb dX6_sign_51 rfl ?_
            refine lv_lconst (v := 1) hx hb dX6_sign_52 (by decide) ?_
            refine lv_iload hx hb dX6_sign_53 (lv_at hl 0 rfl) ?_
            refine lv_iconst (v := 1) hx hb dX6_sign_55 (by decide) ?_
            refine lv_isub hx hb dX6_sign_56 ?_
            refine lv_i2l hx hb dX6_sign_57 rfl ?_
            obtain ⟨r23, hr23, h⟩ := Option.bind_eq_some_iff.mp h
            refine vp_callSi (W.runS (As := [.long a2.toInt64, .long 1, .long ((r20 - 1).toInt64)]) (rest := []) ⟨hx, hb, hml, hown, hts⟩ (ctX6_in l N  a2.toInt64 1 ((r20 - 1).toInt64) r23 hr23) (va_cwS 3 hts gX6_sign_X6_in rfl rfl rfl (by decide +kernel) ⟨Nat.le_of_ble_eq_true rfl, Nat.le_of_ble_eq_true rfl⟩) preEq rfl rfl hl.1 rfl (lv_room (Nat.le_of_ble_eq_true rfl)) dX6_sign_58 ⟨Nat.le_of_ble_eq_true rfl, Nat.le_of_ble_eq_true rfl⟩) (fun q9 eq9 => ?_)
            subst q9
            refine lv_if_eq (tgt := 79) hx hb dX6_sign_61 (by decide) (fun c24 => ?_) (fun c24 => ?_)
            · replace h := (if_pos c24).symm.trans h
              refine lv_bipush (v := (-2)) hx hb dX6_sign_79 (by decide) ?_
              have hv : ((-2), u2, u3, u4, u5, u17, f7, f8, f18, f19) = rr := Option.some.inj h
              have hP9 := hP.sub (ws' := [(h0, .inr (5, [.int u2, .int u3, .int u4, .ref h0_inverses, .ref h0_roots, .int u5, .ref h0_points, .int u17, .ref h0_ahead, .int t_curves, .ref h0_ps, .ref h0_as, .ref h0_bs, .ref h0_from, .ref h0_kernelPoint, .ref h0_kernelOrder, .ref h0_marked, .ref h0_seen])), (h0_inverses, .inl (k_t_inverses, 10008, .inl f7)), (h0_roots, .inl (k_t_roots, 10008, .inl f8)), (h0_points, .inl (k_t_points, 10300, .inl f18)), (h0_ahead, .inl (k_t_ahead, 10008, .inl f19)), (h0_ps, .inl (k_t_ps, 24, .inl t_ps)), (h0_as, .inl (k_t_as, 24, .inl t_as)), (h0_bs, .inl (k_t_bs, 24, .inl t_bs))]) [0, 1, 2, 3, 4, 5, 6, 7] rfl
              have hD9 := hD.sub (ws' := [(h0, .inr (5, [.int u2, .int u3, .int u4, .ref h0_inverses, .ref h0_roots, .int u5, .ref h0_points, .int u17, .ref h0_ahead, .int t_curves, .ref h0_ps, .ref h0_as, .ref h0_bs, .ref h0_from, .ref h0_kernelPoint, .ref h0_kernelOrder, .ref h0_marked, .ref h0_seen])), (h0_inverses, .inl (k_t_inverses, 10008, .inl f7)), (h0_roots, .inl (k_t_roots, 10008, .inl f8)), (h0_points, .inl (k_t_points, 10300, .inl f18)), (h0_ahead, .inl (k_t_ahead, 10008, .inl f19)), (h0_ps, .inl (k_t_ps, 24, .inl t_ps)), (h0_as, .inl (k_t_as, 24, .inl t_as)), (h0_bs, .inl (k_t_bs, 24, .inl t_bs))]) [0, 1, 2, 3, 4, 5, 6, 7] (by decide) rfl
              have hK9 := hK.sub (tys' := [(k_t_inverses, .int), (k_t_roots, .int), (k_t_points, .int), (k_t_ahead, .int), (k_t_ps, .int), (k_t_as, .int), (k_t_bs, .int)]) [0, 1, 2, 3, 4, 5, 6] rfl
              exact W.iret (v := (-2)) hx hb hr (fun t ht hW => ⟨⟨(-2), (u2, u3, u4, u5, u17, f7, f8, f18, f19), rfl, hv, by rw [ht]; exact hP9, va_K.moved hW.alike hK9, hD9⟩, hS.F ht⟩) hS.2.2 dX6_sign_81
            · replace h := (if_neg c24).symm.trans h
              refine lv_iload hx hb dX6_sign_64 (lv_at hl 5 rfl) ?_
              refine lv_i2l hx hb dX6_sign_66 rfl ?_
              refine lv_lconst (v := 1) hx hb dX6_sign_67 (by decide) ?_
              refine lv_iload hx hb dX6_sign_68 (lv_at hl 0 rfl) ?_
              refine lv_iconst (v := 1) hx hb dX6_sign_70 (by decide) ?_
              refine lv_isub hx hb dX6_sign_71 ?_
              refine lv_i2l hx hb dX6_sign_72 rfl ?_
              obtain ⟨r25, hr25, h⟩ := Option.bind_eq_some_iff.mp h
              refine vp_callSi (W.runS (As := [.long a3.toInt64, .long 1, .long ((r20 - 1).toInt64)]) (rest := []) ⟨hx, hb, hml, hown, hts⟩ (ctX6_in l N  a3.toInt64 1 ((r20 - 1).toInt64) r25 hr25) (va_cwS 3 hts gX6_sign_X6_in rfl rfl rfl (by decide +kernel) ⟨Nat.le_of_ble_eq_true rfl, Nat.le_of_ble_eq_true rfl⟩) preEq rfl rfl hl.1 rfl (lv_room (Nat.le_of_ble_eq_true rfl)) dX6_sign_73 ⟨Nat.le_of_ble_eq_true rfl, Nat.le_of_ble_eq_true rfl⟩) (fun q9 eq9 => ?_)
              subst q9
              refine lv_if_ne (tgt := 82) hx hb dX6_sign_76 (by decide) (fun c26 => ?_) (fun c26 => ?_)
              · replace h := (if_neg c26).symm.trans h
                refine lv_aload_n hx hb dX6_sign_82 rfl (lv_at hl 1 rfl) ?_
                refine lv_iload_n hx hb dX6_sign_83 rfl (lv_at hl 3 rfl) ?_
                refine lv_iload hx hb dX6_sign_84 (lv_at hl 5 rfl) ?_
                refine lv_i2l hx hb dX6_sign_86 rfl ?_
                obtain ⟨r27, hr27, h⟩ := Option.bind_eq_some_iff.mp h
                have hPc := hP.sub (ws' := [(h0, .inr (5, [.int u2, .int u3, .int u4, .ref h0_inverses, .ref h0_roots, .int u5, .ref h0_points, .int u17, .ref h0_ahead, .int t_curves, .ref h0_ps, .ref h0_as, .ref h0_bs, .ref h0_from, .ref h0_kernelPoint, .ref h0_kernelOrder, .ref h0_marked, .ref h0_seen])), (h0_inverses, .inl (k_t_inverses, 10008, .inl f7))]) [0, 1] rfl
                have hKc := hK.sub (tys' := [(k_t_inverses, .int)]) [0] rfl
                refine vp_callSi (W.runV (As := [.int a1, .long a3.toInt64]) (rest := []) ⟨hx, hb, hml, hown, hts⟩ (ctX6_multiple l N dC dI  h0 h0_inverses h0_roots h0_points h0_ahead h0_ps h0_as h0_bs h0_from h0_kernelPoint h0_kernelOrder h0_marked h0_seen k_t_inverses u2 u3 u4 u5 u17 t_curves f7 a1 a3.toInt64 r27 hr27) (cwV 2 hts gX6_sign_X6_multiple rfl rfl rfl (by decide +kernel) ⟨Nat.le_of_ble_eq_true rfl, Nat.le_of_ble_eq_true rfl⟩) ⟨fun a U g mk q => by obtain ⟨q0, qP, qK, qN⟩ := q; exact ⟨q0, qP, va_K.moved (u := U) (U := U.calling g mk a) (Vm.Alike.refl U.vm) qK, nw_same (u := U) (U := U.calling g mk a) rfl qN⟩, va_recv hKc hPc (ci := 5) (q0 := 0) rfl rfl, fun U hU hW => ⟨rfl, by rw [hU]; exact hPc, va_K.moved hW.alike hKc, nw_warm hW hN⟩⟩ rfl rfl hl.1 rfl (lv_room (Nat.le_of_ble_eq_true rfl)) dX6_sign_87 ⟨Nat.le_of_ble_eq_true rfl, Nat.le_of_ble_eq_true rfl⟩) (fun q9 eq9 => ?_)
                subst q9
                refine lv_sipush (v := 16384) hx hb dX6_sign_90 (by decide) ?_
                refine lv_idiv hx hb dX6_sign_93 (by decide) ?_
                refine lv_topi (fun v28 ev28 => ?_)
                replace h := mi_use ev28 h
                refine lv_iload hx hb dX6_sign_94 (lv_at hl 0 rfl) ?_
                have hn29 : ¬ r20 = 0 := fun hz => absurd ((if_pos hz).symm.trans h) (fun hh => nomatch hh)
                replace h := (if_neg hn29).symm.trans h
                refine lv_irem hx hb dX6_sign_96 hn29 ?_
                refine lv_topi (fun v30 ev30 => ?_)
                replace h := mi_use ev30 h
                refine lv_istore (lv' := [(8, .int v30), (7, .int r20), (0, .ref h0), (1, .int a0), (2, .int a1), (3, .int a2), (4, .int a3), (5, .int a4), (6, .int a5)]) hx hb dX6_sign_97 hl (by decide) rfl (fun ls hl => ?_)
                refine lv_iload hx hb dX6_sign_99 (lv_at hl 7 rfl) ?_
                refine lv_i2l hx hb dX6_sign_101 rfl ?_
                refine lv_iload hx hb dX6_sign_102 (lv_at hl 0 rfl) ?_
                refine lv_i2l hx hb dX6_sign_104 rfl ?_
                refine lv_iload_n hx hb dX6_sign_105 rfl (lv_at hl 5 rfl) ?_
                refine lv_i2l hx hb dX6_sign_106 rfl ?_
                refine lv_lmul hx hb dX6_sign_107 ?_
                refine lv_ladd hx hb dX6_sign_108 ?_
                refine lv_iload hx hb dX6_sign_109 (lv_at hl 1 rfl) ?_
                refine lv_i2l hx hb dX6_sign_111 rfl ?_
                have hn31 : ¬ r20.toInt64 = 0 := fun hz => absurd ((if_pos hz).symm.trans h) (fun hh => nomatch hh)
                replace h := (if_neg hn31).symm.trans h
                refine lv_lrem hx hb dX6_sign_112 hn31 ?_
                refine lv_topl (fun v32 ev32 => ?_)
                replace h := mi_use ev32 h
                refine lv_iload hx hb dX6_sign_113 (lv_at hl 6 rfl) ?_
                refine lv_iload hx hb dX6_sign_115 (lv_at hl 1 rfl) ?_
                obtain ⟨r33, hr33, h⟩ := Option.bind_eq_some_iff.mp h
                refine vp_callSi (W.runS (As := [.int a3, .int r20]) (rest := [.long v32]) ⟨hx, hb, hml, hown, hts⟩ (ctX6_over l N  a3 r20 r33 hr33) (va_cwS 2 hts gX6_sign_X6_over rfl rfl rfl (by decide +kernel) ⟨Nat.le_of_ble_eq_true rfl, Nat.le_of_ble_eq_true rfl⟩) preEq rfl rfl hl.1 rfl (lv_room (Nat.le_of_ble_eq_true rfl)) dX6_sign_117 ⟨Nat.le_of_ble_eq_true rfl, Nat.le_of_ble_eq_true rfl⟩) (fun q9 eq9 => ?_)
                subst q9
                refine lv_i2l hx hb dX6_sign_120 rfl ?_
                refine lv_lmul hx hb dX6_sign_121 ?_
                refine lv_iload hx hb dX6_sign_122 (lv_at hl 1 rfl) ?_
                refine lv_i2l hx hb dX6_sign_124 rfl ?_
                have hn34 : ¬ r20.toInt64 = 0 := fun hz => absurd ((if_pos hz).symm.trans h) (fun hh => nomatch hh)
                replace h := (if_neg hn34).symm.trans h
                refine lv_lrem hx hb dX6_sign_125 hn34 ?_
                refine lv_topl (fun v35 ev35 => ?_)
                replace h := mi_use ev35 h
                refine lv_l2i hx hb dX6_sign_126 rfl ?_
                refine lv_topi (fun v36 ev36 => ?_)
                replace h := mi_use ev36 h
                refine lv_istore (lv' := [(9, .int v36), (8, .int v30), (7, .int r20), (0, .ref h0), (1, .int a0), (2, .int a1), (3, .int a2), (4, .int a3), (5, .int a4), (6, .int a5)]) hx hb dX6_sign_127 hl (by decide) rfl (fun ls hl => ?_)
                refine lv_iload hx hb dX6_sign_129 (lv_at hl 1 rfl) ?_
                refine lv_if_eq (tgt := 139) hx hb dX6_sign_131 (by decide) (fun c37 => ?_) (fun c37 => ?_)
                · replace h := (if_pos c37).symm.trans h
                  refine lv_bipush (v := (-3)) hx hb dX6_sign_139 (by decide) ?_
                  have hv : ((-3), u2, u3, u4, u5, u17, f7, f8, f18, f19) = rr := Option.some.inj h
                  have hP9 := hP.sub (ws' := [(h0, .inr (5, [.int u2, .int u3, .int u4, .ref h0_inverses, .ref h0_roots, .int u5, .ref h0_points, .int u17, .ref h0_ahead, .int t_curves, .ref h0_ps, .ref h0_as, .ref h0_bs, .ref h0_from, .ref h0_kernelPoint, .ref h0_kernelOrder, .ref h0_marked, .ref h0_seen])), (h0_inverses, .inl (k_t_inverses, 10008, .inl f7)), (h0_roots, .inl (k_t_roots, 10008, .inl f8)), (h0_points, .inl (k_t_points, 10300, .inl f18)), (h0_ahead, .inl (k_t_ahead, 10008, .inl f19)), (h0_ps, .inl (k_t_ps, 24, .inl t_ps)), (h0_as, .inl (k_t_as, 24, .inl t_as)), (h0_bs, .inl (k_t_bs, 24, .inl t_bs))]) [0, 1, 2, 3, 4, 5, 6, 7] rfl
                  have hD9 := hD.sub (ws' := [(h0, .inr (5, [.int u2, .int u3, .int u4, .ref h0_inverses, .ref h0_roots, .int u5, .ref h0_points, .int u17, .ref h0_ahead, .int t_curves, .ref h0_ps, .ref h0_as, .ref h0_bs, .ref h0_from, .ref h0_kernelPoint, .ref h0_kernelOrder, .ref h0_marked, .ref h0_seen])), (h0_inverses, .inl (k_t_inverses, 10008, .inl f7)), (h0_roots, .inl (k_t_roots, 10008, .inl f8)), (h0_points, .inl (k_t_points, 10300, .inl f18)), (h0_ahead, .inl (k_t_ahead, 10008, .inl f19)), (h0_ps, .inl (k_t_ps, 24, .inl t_ps)), (h0_as, .inl (k_t_as, 24, .inl t_as)), (h0_bs, .inl (k_t_bs, 24, .inl t_bs))]) [0, 1, 2, 3, 4, 5, 6, 7] (by decide) rfl
                  have hK9 := hK.sub (tys' := [(k_t_inverses, .int), (k_t_roots, .int), (k_t_points, .int), (k_t_ahead, .int), (k_t_ps, .int), (k_t_as, .int), (k_t_bs, .int)]) [0, 1, 2, 3, 4, 5, 6] rfl
                  exact W.iret (v := (-3)) hx hb hr (fun t ht hW => ⟨⟨(-3), (u2, u3, u4, u5, u17, f7, f8, f18, f19), rfl, hv, by rw [ht]; exact hP9, va_K.moved hW.alike hK9, hD9⟩, hS.F ht⟩) hS.2.2 dX6_sign_141
                · replace h := (if_neg c37).symm.trans h
                  refine lv_iload hx hb dX6_sign_134 (lv_at hl 0 rfl) ?_
                  refine lv_if_ne (tgt := 142) hx hb dX6_sign_136 (by decide) (fun c38 => ?_) (fun c38 => ?_)
                  · replace h := (if_neg c38).symm.trans h
                    refine lv_iload hx hb dX6_sign_142 (lv_at hl 9 rfl) ?_
                    refine lv_if_ne (tgt := 152) hx hb dX6_sign_144 (by decide) (fun c39 => ?_) (fun c39 => ?_)
                    · replace h := (if_neg c39).symm.trans h
                      refine lv_iload hx hb dX6_sign_152 (lv_at hl 0 rfl) ?_
                      have hv : (v36, u2, u3, u4, u5, u17, f7, f8, f18, f19) = rr := Option.some.inj h
                      have hP9 := hP.sub (ws' := [(h0, .inr (5, [.int u2, .int u3, .int u4, .ref h0_inverses, .ref h0_roots, .int u5, .ref h0_points, .int u17, .ref h0_ahead, .int t_curves, .ref h0_ps, .ref h0_as, .ref h0_bs, .ref h0_from, .ref h0_kernelPoint, .ref h0_kernelOrder, .ref h0_marked, .ref h0_seen])), (h0_inverses, .inl (k_t_inverses, 10008, .inl f7)), (h0_roots, .inl (k_t_roots, 10008, .inl f8)), (h0_points, .inl (k_t_points, 10300, .inl f18)), (h0_ahead, .inl (k_t_ahead, 10008, .inl f19)), (h0_ps, .inl (k_t_ps, 24, .inl t_ps)), (h0_as, .inl (k_t_as, 24, .inl t_as)), (h0_bs, .inl (k_t_bs, 24, .inl t_bs))]) [0, 1, 2, 3, 4, 5, 6, 7] rfl
                      have hD9 := hD.sub (ws' := [(h0, .inr (5, [.int u2, .int u3, .int u4, .ref h0_inverses, .ref h0_roots, .int u5, .ref h0_points, .int u17, .ref h0_ahead, .int t_curves, .ref h0_ps, .ref h0_as, .ref h0_bs, .ref h0_from, .ref h0_kernelPoint, .ref h0_kernelOrder, .ref h0_marked, .ref h0_seen])), (h0_inverses, .inl (k_t_inverses, 10008, .inl f7)), (h0_roots, .inl (k_t_roots, 10008, .inl f8)), (h0_points, .inl (k_t_points, 10300, .inl f18)), (h0_ahead, .inl (k_t_ahead, 10008, .inl f19)), (h0_ps, .inl (k_t_ps, 24, .inl t_ps)), (h0_as, .inl (k_t_as, 24, .inl t_as)), (h0_bs, .inl (k_t_bs, 24, .inl t_bs))]) [0, 1, 2, 3, 4, 5, 6, 7] (by decide) rfl
                      have hK9 := hK.sub (tys' := [(k_t_inverses, .int), (k_t_roots, .int), (k_t_points, .int), (k_t_ahead, .int), (k_t_ps, .int), (k_t_as, .int), (k_t_bs, .int)]) [0, 1, 2, 3, 4, 5, 6] rfl
                      exact W.iret (v := v36) hx hb hr (fun t ht hW => ⟨⟨v36, (u2, u3, u4, u5, u17, f7, f8, f18, f19), rfl, hv, by rw [ht]; exact hP9, va_K.moved hW.alike hK9, hD9⟩, hS.F ht⟩) hS.2.2 dX6_sign_154
                    · replace h := (if_pos c39).symm.trans h
                      refine lv_iload hx hb dX6_sign_147 (lv_at hl 1 rfl) ?_
                      refine lv_goto (tgt := 154) hx hb dX6_sign_149 (by decide) ?_
                      have hv : (v30, u2, u3, u4, u5, u17, f7, f8, f18, f19) = rr := Option.some.inj h
                      have hP9 := hP.sub (ws' := [(h0, .inr (5, [.int u2, .int u3, .int u4, .ref h0_inverses, .ref h0_roots, .int u5, .ref h0_points, .int u17, .ref h0_ahead, .int t_curves, .ref h0_ps, .ref h0_as, .ref h0_bs, .ref h0_from, .ref h0_kernelPoint, .ref h0_kernelOrder, .ref h0_marked, .ref h0_seen])), (h0_inverses, .inl (k_t_inverses, 10008, .inl f7)), (h0_roots, .inl (k_t_roots, 10008, .inl f8)), (h0_points, .inl (k_t_points, 10300, .inl f18)), (h0_ahead, .inl (k_t_ahead, 10008, .inl f19)), (h0_ps, .inl (k_t_ps, 24, .inl t_ps)), (h0_as, .inl (k_t_as, 24, .inl t_as)), (h0_bs, .inl (k_t_bs, 24, .inl t_bs))]) [0, 1, 2, 3, 4, 5, 6, 7] rfl
                      have hD9 := hD.sub (ws' := [(h0, .inr (5, [.int u2, .int u3, .int u4, .ref h0_inverses, .ref h0_roots, .int u5, .ref h0_points, .int u17, .ref h0_ahead, .int t_curves, .ref h0_ps, .ref h0_as, .ref h0_bs, .ref h0_from, .ref h0_kernelPoint, .ref h0_kernelOrder, .ref h0_marked, .ref h0_seen])), (h0_inverses, .inl (k_t_inverses, 10008, .inl f7)), (h0_roots, .inl (k_t_roots, 10008, .inl f8)), (h0_points, .inl (k_t_points, 10300, .inl f18)), (h0_ahead, .inl (k_t_ahead, 10008, .inl f19)), (h0_ps, .inl (k_t_ps, 24, .inl t_ps)), (h0_as, .inl (k_t_as, 24, .inl t_as)), (h0_bs, .inl (k_t_bs, 24, .inl t_bs))]) [0, 1, 2, 3, 4, 5, 6, 7] (by decide) rfl
                      have hK9 := hK.sub (tys' := [(k_t_inverses, .int), (k_t_roots, .int), (k_t_points, .int), (k_t_ahead, .int), (k_t_ps, .int), (k_t_as, .int), (k_t_bs, .int)]) [0, 1, 2, 3, 4, 5, 6] rfl
                      exact W.iret (v := v30) hx hb hr (fun t ht hW => ⟨⟨v30, (u2, u3, u4, u5, u17, f7, f8, f18, f19), rfl, hv, by rw [ht]; exact hP9, va_K.moved hW.alike hK9, hD9⟩, hS.F ht⟩) hS.2.2 dX6_sign_154
                  · replace h := (if_pos c38).symm.trans h
                    refine lv_bipush (v := (-3)) hx hb dX6_sign_139 (by decide) ?_
                    have hv : ((-3), u2, u3, u4, u5, u17, f7, f8, f18, f19) = rr := Option.some.inj h
                    have hP9 := hP.sub (ws' := [(h0, .inr (5, [.int u2, .int u3, .int u4, .ref h0_inverses, .ref h0_roots, .int u5, .ref h0_points, .int u17, .ref h0_ahead, .int t_curves, .ref h0_ps, .ref h0_as, .ref h0_bs, .ref h0_from, .ref h0_kernelPoint, .ref h0_kernelOrder, .ref h0_marked, .ref h0_seen])), (h0_inverses, .inl (k_t_inverses, 10008, .inl f7)), (h0_roots, .inl (k_t_roots, 10008, .inl f8)), (h0_points, .inl (k_t_points, 10300, .inl f18)), (h0_ahead, .inl (k_t_ahead, 10008, .inl f19)), (h0_ps, .inl (k_t_ps, 24, .inl t_ps)), (h0_as, .inl (k_t_as, 24, .inl t_as)), (h0_bs, .inl (k_t_bs, 24, .inl t_bs))]) [0, 1, 2, 3, 4, 5, 6, 7] rfl
                    have hD9 := hD.sub (ws' := [(h0, .inr (5, [.int u2, .int u3, .int u4, .ref h0_inverses, .ref h0_roots, .int u5, .ref h0_points, .int u17, .ref h0_ahead, .int t_curves, .ref h0_ps, .ref h0_as, .ref h0_bs, .ref h0_from, .ref h0_kernelPoint, .ref h0_kernelOrder, .ref h0_marked, .ref h0_seen])), (h0_inverses, .inl (k_t_inverses, 10008, .inl f7)), (h0_roots, .inl (k_t_roots, 10008, .inl f8)), (h0_points, .inl (k_t_points, 10300, .inl f18)), (h0_ahead, .inl (k_t_ahead, 10008, .inl f19)), (h0_ps, .inl (k_t_ps, 24, .inl t_ps)), (h0_as, .inl (k_t_as, 24, .inl t_as)), (h0_bs, .inl (k_t_bs, 24, .inl t_bs))]) [0, 1, 2, 3, 4, 5, 6, 7] (by decide) rfl
                    have hK9 := hK.sub (tys' := [(k_t_inverses, .int), (k_t_roots, .int), (k_t_points, .int), (k_t_ahead, .int), (k_t_ps, .int), (k_t_as, .int), (k_t_bs, .int)]) [0, 1, 2, 3, 4, 5, 6] rfl
                    exact W.iret (v := (-3)) hx hb hr (fun t ht hW => ⟨⟨(-3), (u2, u3, u4, u5, u17, f7, f8, f18, f19), rfl, hv, by rw [ht]; exact hP9, va_K.moved hW.alike hK9, hD9⟩, hS.F ht⟩) hS.2.2 dX6_sign_141
              · replace h := (if_pos c26).symm.trans h
                refine lv_bipush (v := (-2)) hx hb dX6_sign_79 (by decide) ?_
                have hv : ((-2), u2, u3, u4, u5, u17, f7, f8, f18, f19) = rr := Option.some.inj h
                have hP9 := hP.sub (ws' := [(h0, .inr (5, [.int u2, .int u3, .int u4, .ref h0_inverses, .ref h0_roots, .int u5, .ref h0_points, .int u17, .ref h0_ahead, .int t_curves, .ref h0_ps, .ref h0_as, .ref h0_bs, .ref h0_from, .ref h0_kernelPoint, .ref h0_kernelOrder, .ref h0_marked, .ref h0_seen])), (h0_inverses, .inl (k_t_inverses, 10008, .inl f7)), (h0_roots, .inl (k_t_roots, 10008, .inl f8)), (h0_points, .inl (k_t_points, 10300, .inl f18)), (h0_ahead, .inl (k_t_ahead, 10008, .inl f19)), (h0_ps, .inl (k_t_ps, 24, .inl t_ps)), (h0_as, .inl (k_t_as, 24, .inl t_as)), (h0_bs, .inl (k_t_bs, 24, .inl t_bs))]) [0, 1, 2, 3, 4, 5, 6, 7] rfl
                have hD9 := hD.sub (ws' := [(h0, .inr (5, [.int u2, .int u3, .int u4, .ref h0_inverses, .ref h0_roots, .int u5, .ref h0_points, .int u17, .ref h0_ahead, .int t_curves, .ref h0_ps, .ref h0_as, .ref h0_bs, .ref h0_from, .ref h0_kernelPoint, .ref h0_kernelOrder, .ref h0_marked, .ref h0_seen])), (h0_inverses, .inl (k_t_inverses, 10008, .inl f7)), (h0_roots, .inl (k_t_roots, 10008, .inl f8)), (h0_points, .inl (k_t_points, 10300, .inl f18)), (h0_ahead, .inl (k_t_ahead, 10008, .inl f19)), (h0_ps, .inl (k_t_ps, 24, .inl t_ps)), (h0_as, .inl (k_t_as, 24, .inl t_as)), (h0_bs, .inl (k_t_bs, 24, .inl t_bs))]) [0, 1, 2, 3, 4, 5, 6, 7] (by decide) rfl
                have hK9 := hK.sub (tys' := [(k_t_inverses, .int), (k_t_roots, .int), (k_t_points, .int), (k_t_ahead, .int), (k_t_ps, .int), (k_t_as, .int), (k_t_bs, .int)]) [0, 1, 2, 3, 4, 5, 6] rfl
                exact W.iret (v := (-2)) hx hb hr (fun t ht hW => ⟨⟨(-2), (u2, u3, u4, u5, u17, f7, f8, f18, f19), rfl, hv, by rw [ht]; exact hP9, va_K.moved hW.alike hK9, hD9⟩, hS.F ht⟩) hS.2.2 dX6_sign_81
        · replace h := (if_neg c15).symm.trans h
          refine lv_bipush (v := (-2)) hx hb dX6_sign_32 (by decide) ?_
          have hv : ((-2), u2, u3, u4, u5, u6, f7, f8, t_points, t_ahead) = rr := Option.some.inj h
          have hP9 := hP.sub (ws' := [(h0, .inr (5, [.int u2, .int u3, .int u4, .ref h0_inverses, .ref h0_roots, .int u5, .ref h0_points, .int u6, .ref h0_ahead, .int t_curves, .ref h0_ps, .ref h0_as, .ref h0_bs, .ref h0_from, .ref h0_kernelPoint, .ref h0_kernelOrder, .ref h0_marked, .ref h0_seen])), (h0_inverses, .inl (k_t_inverses, 10008, .inl f7)), (h0_roots, .inl (k_t_roots, 10008, .inl f8)), (h0_points, .inl (k_t_points, 10300, .inl t_points)), (h0_ahead, .inl (k_t_ahead, 10008, .inl t_ahead)), (h0_ps, .inl (k_t_ps, 24, .inl t_ps)), (h0_as, .inl (k_t_as, 24, .inl t_as)), (h0_bs, .inl (k_t_bs, 24, .inl t_bs))]) [0, 1, 2, 3, 4, 5, 6, 7] rfl
          have hD9 := hD.sub (ws' := [(h0, .inr (5, [.int u2, .int u3, .int u4, .ref h0_inverses, .ref h0_roots, .int u5, .ref h0_points, .int u6, .ref h0_ahead, .int t_curves, .ref h0_ps, .ref h0_as, .ref h0_bs, .ref h0_from, .ref h0_kernelPoint, .ref h0_kernelOrder, .ref h0_marked, .ref h0_seen])), (h0_inverses, .inl (k_t_inverses, 10008, .inl f7)), (h0_roots, .inl (k_t_roots, 10008, .inl f8)), (h0_points, .inl (k_t_points, 10300, .inl t_points)), (h0_ahead, .inl (k_t_ahead, 10008, .inl t_ahead)), (h0_ps, .inl (k_t_ps, 24, .inl t_ps)), (h0_as, .inl (k_t_as, 24, .inl t_as)), (h0_bs, .inl (k_t_bs, 24, .inl t_bs))]) [0, 1, 2, 3, 4, 5, 6, 7] (by decide) rfl
          have hK9 := hK.sub (tys' := [(k_t_inverses, .int), (k_t_roots, .int), (k_t_points, .int), (k_t_ahead, .int), (k_t_ps, .int), (k_t_as, .int), (k_t_bs, .int)]) [0, 1, 2, 3, 4, 5, 6] rfl
          exact W.iret (v := (-2)) hx hb hr (fun t ht hW => ⟨⟨(-2), (u2, u3, u4, u5, u6, f7, f8, t_points, t_ahead), rfl, hv, by rw [ht]; exact hP9, va_K.moved hW.alike hK9, hD9⟩, hS.F ht⟩) hS.2.2 dX6_sign_34
