def mX6_countOver_b60 (N : Nat) (a1 : Int32) (v17 : Int64) (u2 : Int32) (st : Int64 × Int64 × Int64 × Int32) : Option ((Int64 × Int64 × Int64 × Int32) ⊕ (Int64 × Int64 × Int64 × Int32)) :=
  match st with
  | (x19, x20, x21, x22) => if a1 < x22 then some (.inr (x19, x20, x21, x22)) else mi_let ((v17 * x20) - (u2.toInt64 * x19)) (fun v28 => mi_let (x21 * u2.toInt64) (fun v29 => mi_let (x22 + 1) (fun v30 => some (.inl (x20, v28, v29, v30)))))
def mX6_countOver (N : Nat) (t_p : Int32) (t_a : Int32) (t_b : Int32) (t_rooted : Int32) (t_pointMany : Int32) (t_curves : Int32) (t_inverses : Nat → Int32) (t_roots : Nat → Int32) (t_points : Nat → Int32) (t_ahead : Nat → Int32) (t_ps : Nat → Int32) (t_as : Nat → Int32) (t_bs : Nat → Int32) (a0 : Int32) (a1 : Int32) : Option (Int64 × Int32 × Int32 × Int32 × Int32 × Int32 × (Nat → Int32) × (Nat → Int32) × (Nat → Int32) × (Nat → Int32)) := (mX6_has N t_p t_a t_b t_rooted t_pointMany t_curves t_inverses t_roots t_ps t_as t_bs a0).bind (fun r1 => match r1 with | (r9, u2, u3, u4, u5, u6, f7, f8) => if r9 = 0 then some ((-2), u2, u3, u4, u5, u6, f7, f8, t_points, t_ahead) else (mX6_in N a1.toInt64 1 4).bind (fun r11 => if r11 = 0 then some ((-2), u2, u3, u4, u5, u6, f7, f8, t_points, t_ahead) else (mX6_list N u2 u3 u4 u6 f8 t_points t_ahead).bind (fun r13 => match r13 with | (u14, f15, f16) => mi_let ((u2.toInt64 + 1) - u14.toInt64) (fun v17 => mi_let (u2.toInt64) (fun v18 => (mi_run (mX6_countOver_b60 N a1 v17 u2) N (2, v17, v18, 2)).bind (fun o31 => match o31 with | (y23, y24, y25, y26) => some ((y25 + 1) - y24, u2, u3, u4, u5, u14, f7, f8, f15, f16)))))))
abbrev rmX6_countOver : Room := { frames := 3, cells := 0, slots := 0, locals := 66 }
set_option maxHeartbeats 4000000 in
set_option maxRecDepth 100000 in
theorem ctX6_countOver (l : Launch) (N : Nat) (dC : Nat → ClassId) (dI : Nat → Nat → Nat) (sz : Nat) (h0 : Nat) (h0_inverses : Nat) (h0_roots : Nat) (h0_points : Nat) (h0_ahead : Nat) (h0_ps : Nat) (h0_as : Nat) (h0_bs : Nat) (h0_from : Nat) (h0_kernelPoint : Nat) (h0_kernelOrder : Nat) (h0_marked : Nat) (h0_seen : Nat) (k_t_inverses : ClassId) (k_t_roots : ClassId) (k_t_points : ClassId) (k_t_ahead : ClassId) (k_t_ps : ClassId) (k_t_as : ClassId) (k_t_bs : ClassId) (t_p : Int32) (t_a : Int32) (t_b : Int32) (t_rooted : Int32) (t_pointMany : Int32) (t_curves : Int32) (t_inverses : Nat → Int32) (t_roots : Nat → Int32) (t_points : Nat → Int32) (t_ahead : Nat → Int32) (t_ps : Nat → Int32) (t_as : Nat → Int32) (t_bs : Nat → Int32) (a0 : Int32) (a1 : Int32) (rr : Int64 × Int32 × Int32 × Int32 × Int32 × Int32 × (Nat → Int32) × (Nat → Int32) × (Nat → Int32) × (Nat → Int32)) (h : mX6_countOver N t_p t_a t_b t_rooted t_pointMany t_curves t_inverses t_roots t_points t_ahead t_ps t_as t_bs a0 a1 = some rr) : Met l yX6_countOver wsX6_countOver rmX6_countOver (va_Pc [.ref h0, .int a0, .int a1] (fun U => U.heap.size = sz ∧ va_P (dC, dI) vwCl [(h0, .inr (5, [.int t_p, .int t_a, .int t_b, .ref h0_inverses, .ref h0_roots, .int t_rooted, .ref h0_points, .int t_pointMany, .ref h0_ahead, .int t_curves, .ref h0_ps, .ref h0_as, .ref h0_bs, .ref h0_from, .ref h0_kernelPoint, .ref h0_kernelOrder, .ref h0_marked, .ref h0_seen])), (h0_inverses, .inl (k_t_inverses, 10008, .inl t_inverses)), (h0_roots, .inl (k_t_roots, 10008, .inl t_roots)), (h0_points, .inl (k_t_points, 10300, .inl t_points)), (h0_ahead, .inl (k_t_ahead, 10008, .inl t_ahead)), (h0_ps, .inl (k_t_ps, 24, .inl t_ps)), (h0_as, .inl (k_t_as, 24, .inl t_as)), (h0_bs, .inl (k_t_bs, 24, .inl t_bs))] U.heap ∧ va_K (dC, dI) vwCl [(k_t_inverses, .int), (k_t_roots, .int), (k_t_points, .int), (k_t_ahead, .int), (k_t_ps, .int), (k_t_as, .int), (k_t_bs, .int)] U ∧ nw_all U ∧ va_D (fun _ => True) [(h0, .inr (5, [.int t_p, .int t_a, .int t_b, .ref h0_inverses, .ref h0_roots, .int t_rooted, .ref h0_points, .int t_pointMany, .ref h0_ahead, .int t_curves, .ref h0_ps, .ref h0_as, .ref h0_bs, .ref h0_from, .ref h0_kernelPoint, .ref h0_kernelOrder, .ref h0_marked, .ref h0_seen])), (h0_inverses, .inl (k_t_inverses, 10008, .inl t_inverses)), (h0_roots, .inl (k_t_roots, 10008, .inl t_roots)), (h0_points, .inl (k_t_points, 10300, .inl t_points)), (h0_ahead, .inl (k_t_ahead, 10008, .inl t_ahead)), (h0_ps, .inl (k_t_ps, 24, .inl t_ps)), (h0_as, .inl (k_t_as, 24, .inl t_as)), (h0_bs, .inl (k_t_bs, 24, .inl t_bs))])) (va_Ql (fun (r : Int64) (u : Int32 × Int32 × Int32 × Int32 × Int32 × (Nat → Int32) × (Nat → Int32) × (Nat → Int32) × (Nat → Int32)) => (r, u) = rr) (fun (u : Int32 × Int32 × Int32 × Int32 × Int32 × (Nat → Int32) × (Nat → Int32) × (Nat → Int32) × (Nat → Int32)) t => match u with | (u0, u1, u2, u3, u4, u5, u6, u7, u8) => va_P (dC, dI) vwCl [(h0, .inr (5, [.int u0, .int u1, .int u2, .ref h0_inverses, .ref h0_roots, .int u3, .ref h0_points, .int u4, .ref h0_ahead, .int t_curves, .ref h0_ps, .ref h0_as, .ref h0_bs, .ref h0_from, .ref h0_kernelPoint, .ref h0_kernelOrder, .ref h0_marked, .ref h0_seen])), (h0_inverses, .inl (k_t_inverses, 10008, .inl u5)), (h0_roots, .inl (k_t_roots, 10008, .inl u6)), (h0_points, .inl (k_t_points, 10300, .inl u7)), (h0_ahead, .inl (k_t_ahead, 10008, .inl u8)), (h0_ps, .inl (k_t_ps, 24, .inl t_ps)), (h0_as, .inl (k_t_as, 24, .inl t_as)), (h0_bs, .inl (k_t_bs, 24, .inl t_bs))] t.heap ∧ va_K (dC, dI) vwCl [(k_t_inverses, .int), (k_t_roots, .int), (k_t_points, .int), (k_t_ahead, .int), (k_t_ps, .int), (k_t_as, .int), (k_t_bs, .int)] t ∧ va_D (va_A [(h0, .inr (5, [.int t_p, .int t_a, .int t_b, .ref h0_inverses, .ref h0_roots, .int t_rooted, .ref h0_points, .int t_pointMany, .ref h0_ahead, .int t_curves, .ref h0_ps, .ref h0_as, .ref h0_bs, .ref h0_from, .ref h0_kernelPoint, .ref h0_kernelOrder, .ref h0_marked, .ref h0_seen])), (h0_inverses, .inl (k_t_inverses, 10008, .inl t_inverses)), (h0_roots, .inl (k_t_roots, 10008, .inl t_roots)), (h0_points, .inl (k_t_points, 10300, .inl t_points)), (h0_ahead, .inl (k_t_ahead, 10008, .inl t_ahead)), (h0_ps, .inl (k_t_ps, 24, .inl t_ps)), (h0_as, .inl (k_t_as, 24, .inl t_as)), (h0_bs, .inl (k_t_bs, 24, .inl t_bs))] sz) [(h0, .inr (5, [.int u0, .int u1, .int u2, .ref h0_inverses, .ref h0_roots, .int u3, .ref h0_points, .int u4, .ref h0_ahead, .int t_curves, .ref h0_ps, .ref h0_as, .ref h0_bs, .ref h0_from, .ref h0_kernelPoint, .ref h0_kernelOrder, .ref h0_marked, .ref h0_seen])), (h0_inverses, .inl (k_t_inverses, 10008, .inl u5)), (h0_roots, .inl (k_t_roots, 10008, .inl u6)), (h0_points, .inl (k_t_points, 10300, .inl u7)), (h0_ahead, .inl (k_t_ahead, 10008, .inl u8)), (h0_ps, .inl (k_t_ps, 24, .inl t_ps)), (h0_as, .inl (k_t_as, 24, .inl t_as)), (h0_bs, .inl (k_t_bs, 24, .inl t_bs))]) (va_A [(h0, .inr (5, [.int t_p, .int t_a, .int t_b, .ref h0_inverses, .ref h0_roots, .int t_rooted, .ref h0_points, .int t_pointMany, .ref h0_ahead, .int t_curves, .ref h0_ps, .ref h0_as, .ref h0_bs, .ref h0_from, .ref h0_kernelPoint, .ref h0_kernelOrder, .ref h0_marked, .ref h0_seen])), (h0_inverses, .inl (k_t_inverses, 10008, .inl t_inverses)), (h0_roots, .inl (k_t_roots, 10008, .inl t_roots)), (h0_points, .inl (k_t_points, 10300, .inl t_points)), (h0_ahead, .inl (k_t_ahead, 10008, .inl t_ahead)), (h0_ps, .inl (k_t_ps, 24, .inl t_ps)), (h0_as, .inl (k_t_as, 24, .inl t_as)), (h0_bs, .inl (k_t_bs, 24, .inl t_bs))] sz)) 0 0 (va_A [(h0, .inr (5, [.int t_p, .int t_a, .int t_b, .ref h0_inverses, .ref h0_roots, .int t_rooted, .ref h0_points, .int t_pointMany, .ref h0_ahead, .int t_curves, .ref h0_ps, .ref h0_as, .ref h0_bs, .ref h0_from, .ref h0_kernelPoint, .ref h0_kernelOrder, .ref h0_marked, .ref h0_seen])), (h0_inverses, .inl (k_t_inverses, 10008, .inl t_inverses)), (h0_roots, .inl (k_t_roots, 10008, .inl t_roots)), (h0_points, .inl (k_t_points, 10300, .inl t_points)), (h0_ahead, .inl (k_t_ahead, 10008, .inl t_ahead)), (h0_ps, .inl (k_t_ps, 24, .inl t_ps)), (h0_as, .inl (k_t_as, 24, .inl t_as)), (h0_bs, .inl (k_t_bs, 24, .inl t_bs))] sz) := by
  refine Met.ofW (cc := cX6_countOver) (maxL := 14) (ret := (some .long)) (by decide) rfl ?_
  intro p e s m args below meth c s₁ B hml hv
  obtain ⟨rfl, hsz, hP, hK, hN, hD0⟩ := hv
  have hx := B.exec
  have hb := B.bytes
  have hr := B.returns
  have hts := atoms_spec (ws := wsX6_countOver) B.pre
  have hown : s.vm.findClass RX6 = some m.cls := findClass_of_methodNamed B.named
  have hlocks := B.notSynchronized
  subst hsz
  have hD := hD0.self (sz := s.heap.size)
  generalize hAe : va_A [(h0, .inr (5, [.int t_p, .int t_a, .int t_b, .ref h0_inverses, .ref h0_roots, .int t_rooted, .ref h0_points, .int t_pointMany, .ref h0_ahead, .int t_curves, .ref h0_ps, .ref h0_as, .ref h0_bs, .ref h0_from, .ref h0_kernelPoint, .ref h0_kernelOrder, .ref h0_marked, .ref h0_seen])), (h0_inverses, .inl (k_t_inverses, 10008, .inl t_inverses)), (h0_roots, .inl (k_t_roots, 10008, .inl t_roots)), (h0_points, .inl (k_t_points, 10300, .inl t_points)), (h0_ahead, .inl (k_t_ahead, 10008, .inl t_ahead)), (h0_ps, .inl (k_t_ps, 24, .inl t_ps)), (h0_as, .inl (k_t_as, 24, .inl t_as)), (h0_bs, .inl (k_t_bs, 24, .inl t_bs))] s.heap.size = A at hD ⊢
  have hA0 : ∀ q : Nat, s.heap.size ≤ q → A q := fun q h => by rw [← hAe]; exact Or.inr h
  have hS : va_S A s.heap s.heap [] := va_S.rf
  have hP : va_P (dC, dI) vwCl [(h0, .inr (5, [.int t_p, .int t_a, .int t_b, .ref h0_inverses, .ref h0_roots, .int t_rooted, .ref h0_points, .int t_pointMany, .ref h0_ahead, .int t_curves, .ref h0_ps, .ref h0_as, .ref h0_bs, .ref h0_from, .ref h0_kernelPoint, .ref h0_kernelOrder, .ref h0_marked, .ref h0_seen])), (h0_inverses, .inl (k_t_inverses, 10008, .inl t_inverses)), (h0_roots, .inl (k_t_roots, 10008, .inl t_roots)), (h0_points, .inl (k_t_points, 10300, .inl t_points)), (h0_ahead, .inl (k_t_ahead, 10008, .inl t_ahead)), (h0_ps, .inl (k_t_ps, 24, .inl t_ps)), (h0_as, .inl (k_t_as, 24, .inl t_as)), (h0_bs, .inl (k_t_bs, 24, .inl t_bs))] s.heap := hP
  have hl := lv_entry ([.ref h0, .int a0, .int a1]) (n := 14) (Nat.le_of_ble_eq_true rfl)
  rw [lg_entry_eq]
  generalize (lg_sl ([.ref h0, .int a0, .int a1]) ++ List.replicate (14 - (lg_sl ([.ref h0, .int a0, .int a1])).length) Slot.unset).toArray = ls at hl ⊢
  have hl : lv_has ls 14 [(0, .ref h0), (1, .int a0), (2, .int a1)] := hl
  dsimp only [mX6_countOver] at h
  refine lv_aload_n hx hb dX6_countOver_0 rfl (lv_at hl 0 rfl) ?_
  refine lv_iload_n hx hb dX6_countOver_1 rfl (lv_at hl 1 rfl) ?_
  obtain ⟨r1, hr1, h⟩ := Option.bind_eq_some_iff.mp h
  have hPc := hP.sub (ws' := [(h0, .inr (5, [.int t_p, .int t_a, .int t_b, .ref h0_inverses, .ref h0_roots, .int t_rooted, .ref h0_points, .int t_pointMany, .ref h0_ahead, .int t_curves, .ref h0_ps, .ref h0_as, .ref h0_bs, .ref h0_from, .ref h0_kernelPoint, .ref h0_kernelOrder, .ref h0_marked, .ref h0_seen])), (h0_inverses, .inl (k_t_inverses, 10008, .inl t_inverses)), (h0_roots, .inl (k_t_roots, 10008, .inl t_roots)), (h0_ps, .inl (k_t_ps, 24, .inl t_ps)), (h0_as, .inl (k_t_as, 24, .inl t_as)), (h0_bs, .inl (k_t_bs, 24, .inl t_bs))]) [0, 1, 2, 5, 6, 7] rfl
  have hDc := hD.sub (ws' := [(h0, .inr (5, [.int t_p, .int t_a, .int t_b, .ref h0_inverses, .ref h0_roots, .int t_rooted, .ref h0_points, .int t_pointMany, .ref h0_ahead, .int t_curves, .ref h0_ps, .ref h0_as, .ref h0_bs, .ref h0_from, .ref h0_kernelPoint, .ref h0_kernelOrder, .ref h0_marked, .ref h0_seen])), (h0_inverses, .inl (k_t_inverses, 10008, .inl t_inverses)), (h0_roots, .inl (k_t_roots, 10008, .inl t_roots)), (h0_ps, .inl (k_t_ps, 24, .inl t_ps)), (h0_as, .inl (k_t_as, 24, .inl t_as)), (h0_bs, .inl (k_t_bs, 24, .inl t_bs))]) [0, 1, 2, 5, 6, 7] (by decide) rfl
  have hKc := hK.sub (tys' := [(k_t_inverses, .int), (k_t_roots, .int), (k_t_ps, .int), (k_t_as, .int), (k_t_bs, .int)]) [0, 1, 4, 5, 6] rfl
  have hFc := va_free (wc := [(h0, .inr (5, [.int t_p, .int t_a, .int t_b, .ref h0_inverses, .ref h0_roots, .int t_rooted, .ref h0_points, .int t_pointMany, .ref h0_ahead, .int t_curves, .ref h0_ps, .ref h0_as, .ref h0_bs, .ref h0_from, .ref h0_kernelPoint, .ref h0_kernelOrder, .ref h0_marked, .ref h0_seen])), (h0_inverses, .inl (k_t_inverses, 10008, .inl t_inverses)), (h0_roots, .inl (k_t_roots, 10008, .inl t_roots)), (h0_ps, .inl (k_t_ps, 24, .inl t_ps)), (h0_as, .inl (k_t_as, 24, .inl t_as)), (h0_bs, .inl (k_t_bs, 24, .inl t_bs))]) hD hS hA0 [0, 1, 2, 5, 6, 7] rfl
  refine va_calli (va_runV (As := [.int a0]) (rest := []) ⟨hx, hb, hml, hown, hts⟩ (ctX6_has l N dC dI _ h0 h0_inverses h0_roots h0_ps h0_as h0_bs h0_points h0_ahead h0_from h0_kernelPoint h0_kernelOrder h0_marked h0_seen k_t_inverses k_t_roots k_t_ps k_t_as k_t_bs t_p t_a t_b t_rooted t_pointMany t_curves t_inverses t_roots t_ps t_as t_bs a0 r1 hr1) (cwV 1 hts gX6_countOver_X6_has rfl rfl rfl (by decide +kernel) ⟨Nat.le_of_ble_eq_true rfl, Nat.le_of_ble_eq_true rfl⟩) ⟨fun a U g mk q => by obtain ⟨q0, q1, qP, qK, qN, qD⟩ := q; exact ⟨q0, q1, qP, va_K.moved (u := U) (U := U.calling g mk a) (Vm.Alike.refl U.vm) qK, nw_same (u := U) (U := U.calling g mk a) rfl qN, qD⟩, va_recv hKc hPc (ci := 5) (q0 := 0) rfl rfl, fun U hU hW => ⟨rfl, by rw [hU], by rw [hU]; exact hPc, va_K.moved hW.alike hKc, nw_warm hW hN, hDc.weaken (fun _ _ _ _ => trivial)⟩⟩ rfl rfl hl.1 rfl (lv_room (Nat.le_of_ble_eq_true rfl)) dX6_countOver_2 ⟨Nat.le_of_ble_eq_true rfl, Nat.le_of_ble_eq_true rfl⟩) hS (fun q _ h => hFc q h) hFc (fun rz u t H1 locs ht hvm hw hB1 hz1 hk1 hS => ?_)
  obtain ⟨u2, u3, u4, u5, u6, f7, f8⟩ := u
  obtain ⟨hP1, hK1, hD1⟩ := hB1
  rw [ht] at hP1
  have hK1 := va_K.moved hvm.symm hK1
  obtain ⟨r9, rfl⟩ : ∃ z, z = rz := ⟨_, rfl⟩
  subst hw
  try dsimp only at h
  obtain ⟨hP, hD⟩ := va_join (wr := [(h0_points, .inl (k_t_points, 10300, .inl t_points)), (h0_ahead, .inl (k_t_ahead, 10008, .inl t_ahead))]) (w1 := [(h0, .inr (5, [.int u2, .int u3, .int u4, .ref h0_inverses, .ref h0_roots, .int u5, .ref h0_points, .int u6, .ref h0_ahead, .int t_curves, .ref h0_ps, .ref h0_as, .ref h0_bs, .ref h0_from, .ref h0_kernelPoint, .ref h0_kernelOrder, .ref h0_marked, .ref h0_seen])), (h0_inverses, .inl (k_t_inverses, 10008, .inl f7)), (h0_roots, .inl (k_t_roots, 10008, .inl f8)), (h0_ps, .inl (k_t_ps, 24, .inl t_ps)), (h0_as, .inl (k_t_as, 24, .inl t_as)), (h0_bs, .inl (k_t_bs, 24, .inl t_bs))]) hP hD [0, 1, 2, 5, 6, 7] [3, 4] rfl rfl (by decide) (by decide) hk1 hFc hP1 hD1
  generalize H1 = H at hP hS ⊢
  have hP := hP.sub (ws' := [(h0, .inr (5, [.int u2, .int u3, .int u4, .ref h0_inverses, .ref h0_roots, .int u5, .ref h0_points, .int u6, .ref h0_ahead, .int t_curves, .ref h0_ps, .ref h0_as, .ref h0_bs, .ref h0_from, .ref h0_kernelPoint, .ref h0_kernelOrder, .ref h0_marked, .ref h0_seen])), (h0_inverses, .inl (k_t_inverses, 10008, .inl f7)), (h0_roots, .inl (k_t_roots, 10008, .inl f8)), (h0_points, .inl (k_t_points, 10300, .inl t_points)), (h0_ahead, .inl (k_t_ahead, 10008, .inl t_ahead)), (h0_ps, .inl (k_t_ps, 24, .inl t_ps)), (h0_as, .inl (k_t_as, 24, .inl t_as)), (h0_bs, .inl (k_t_bs, 24, .inl t_bs))]) [2, 3, 4, 0, 1, 5, 6, 7] rfl
  have hD := hD.sub (ws' := [(h0, .inr (5, [.int u2, .int u3, .int u4, .ref h0_inverses, .ref h0_roots, .int u5, .ref h0_points, .int u6, .ref h0_ahead, .int t_curves, .ref h0_ps, .ref h0_as, .ref h0_bs, .ref h0_from, .ref h0_kernelPoint, .ref h0_kernelOrder, .ref h0_marked, .ref h0_seen])), (h0_inverses, .inl (k_t_inverses, 10008, .inl f7)), (h0_roots, .inl (k_t_roots, 10008, .inl f8)), (h0_points, .inl (k_t_points, 10300, .inl t_points)), (h0_ahead, .inl (k_t_ahead, 10008, .inl t_ahead)), (h0_ps, .inl (k_t_ps, 24, .inl t_ps)), (h0_as, .inl (k_t_as, 24, .inl t_as)), (h0_bs, .inl (k_t_bs, 24, .inl t_bs))]) [2, 3, 4, 0, 1, 5, 6, 7] (by decide) rfl
  refine lv_if_eq (tgt := 20) hx hb dX6_countOver_5 (by decide) (fun c10 => ?_) (fun c10 => ?_)
  · replace h := (if_pos c10).symm.trans h
    refine lv_ldc2 (v := (-2)) hx hb hown (hts (.constantLong RX6 154 (-2)) (by decide +kernel)) dX6_countOver_20 ?_
    have hv : ((-2), u2, u3, u4, u5, u6, f7, f8, t_points, t_ahead) = rr := Option.some.inj h
    have hP9 := hP.sub (ws' := [(h0, .inr (5, [.int u2, .int u3, .int u4, .ref h0_inverses, .ref h0_roots, .int u5, .ref h0_points, .int u6, .ref h0_ahead, .int t_curves, .ref h0_ps, .ref h0_as, .ref h0_bs, .ref h0_from, .ref h0_kernelPoint, .ref h0_kernelOrder, .ref h0_marked, .ref h0_seen])), (h0_inverses, .inl (k_t_inverses, 10008, .inl f7)), (h0_roots, .inl (k_t_roots, 10008, .inl f8)), (h0_points, .inl (k_t_points, 10300, .inl t_points)), (h0_ahead, .inl (k_t_ahead, 10008, .inl t_ahead)), (h0_ps, .inl (k_t_ps, 24, .inl t_ps)), (h0_as, .inl (k_t_as, 24, .inl t_as)), (h0_bs, .inl (k_t_bs, 24, .inl t_bs))]) [0, 1, 2, 3, 4, 5, 6, 7] rfl
    have hD9 := hD.sub (ws' := [(h0, .inr (5, [.int u2, .int u3, .int u4, .ref h0_inverses, .ref h0_roots, .int u5, .ref h0_points, .int u6, .ref h0_ahead, .int t_curves, .ref h0_ps, .ref h0_as, .ref h0_bs, .ref h0_from, .ref h0_kernelPoint, .ref h0_kernelOrder, .ref h0_marked, .ref h0_seen])), (h0_inverses, .inl (k_t_inverses, 10008, .inl f7)), (h0_roots, .inl (k_t_roots, 10008, .inl f8)), (h0_points, .inl (k_t_points, 10300, .inl t_points)), (h0_ahead, .inl (k_t_ahead, 10008, .inl t_ahead)), (h0_ps, .inl (k_t_ps, 24, .inl t_ps)), (h0_as, .inl (k_t_as, 24, .inl t_as)), (h0_bs, .inl (k_t_bs, 24, .inl t_bs))]) [0, 1, 2, 3, 4, 5, 6, 7] (by decide) rfl
    have hK9 := hK.sub (tys' := [(k_t_inverses, .int), (k_t_roots, .int), (k_t_points, .int), (k_t_ahead, .int), (k_t_ps, .int), (k_t_as, .int), (k_t_bs, .int)]) [0, 1, 2, 3, 4, 5, 6] rfl
    exact W.lret (v := (-2)) hx hb hr (fun t ht hW => ⟨⟨(-2), (u2, u3, u4, u5, u6, f7, f8, t_points, t_ahead), rfl, hv, by rw [ht]; exact hP9, va_K.moved hW.alike hK9, hD9⟩, hS.F ht⟩) hS.2.2 dX6_countOver_23
  · replace h := (if_neg c10).symm.trans h
    refine lv_iload_n hx hb dX6_countOver_8 rfl (lv_at hl 2 rfl) ?_
    refine lv_i2l hx hb dX6_countOver_9 rfl ?_
    refine lv_lconst (v := 1) hx hb dX6_countOver_10 (by decide) ?_
    refine lv_ldc2 (v := 4) hx hb hown (hts (.constantLong RX6 108 4) (by decide +kernel)) dX6_countOver_11 ?_
    obtain ⟨r11, hr11, h⟩ := Option.bind_eq_some_iff.mp h
    refine vp_callSi (W.runS (As := [.long a1.toInt64, .long 1, .long 4]) (rest := []) ⟨hx, hb, hml, hown, hts⟩ (ctX6_in l N  a1.toInt64 1 4 r11 hr11) (va_cwS 3 hts gX6_countOver_X6_in rfl rfl rfl (by decide +kernel) ⟨Nat.le_of_ble_eq_true rfl, Nat.le_of_ble_eq_true rfl⟩) preEq rfl rfl hl.1 rfl (lv_room (Nat.le_of_ble_eq_true rfl)) dX6_countOver_14 ⟨Nat.le_of_ble_eq_true rfl, Nat.le_of_ble_eq_true rfl⟩) (fun q9 eq9 => ?_)
    subst q9
    refine lv_if_ne (tgt := 24) hx hb dX6_countOver_17 (by decide) (fun c12 => ?_) (fun c12 => ?_)
    · replace h := (if_neg c12).symm.trans h
      refine lv_aload_n hx hb dX6_countOver_24 rfl (lv_at hl 0 rfl) ?_
      obtain ⟨r13, hr13, h⟩ := Option.bind_eq_some_iff.mp h
      have hPc := hP.sub (ws' := [(h0, .inr (5, [.int u2, .int u3, .int u4, .ref h0_inverses, .ref h0_roots, .int u5, .ref h0_points, .int u6, .ref h0_ahead, .int t_curves, .ref h0_ps, .ref h0_as, .ref h0_bs, .ref h0_from, .ref h0_kernelPoint, .ref h0_kernelOrder, .ref h0_marked, .ref h0_seen])), (h0_roots, .inl (k_t_roots, 10008, .inl f8)), (h0_points, .inl (k_t_points, 10300, .inl t_points)), (h0_ahead, .inl (k_t_ahead, 10008, .inl t_ahead))]) [0, 2, 3, 4] rfl
      have hDc := hD.sub (ws' := [(h0, .inr (5, [.int u2, .int u3, .int u4, .ref h0_inverses, .ref h0_roots, .int u5, .ref h0_points, .int u6, .ref h0_ahead, .int t_curves, .ref h0_ps, .ref h0_as, .ref h0_bs, .ref h0_from, .ref h0_kernelPoint, .ref h0_kernelOrder, .ref h0_marked, .ref h0_seen])), (h0_roots, .inl (k_t_roots, 10008, .inl f8)), (h0_points, .inl (k_t_points, 10300, .inl t_points)), (h0_ahead, .inl (k_t_ahead, 10008, .inl t_ahead))]) [0, 2, 3, 4] (by decide) rfl
      have hKc := hK.sub (tys' := [(k_t_roots, .int), (k_t_points, .int), (k_t_ahead, .int)]) [1, 2, 3] rfl
      have hFc := va_free (wc := [(h0, .inr (5, [.int u2, .int u3, .int u4, .ref h0_inverses, .ref h0_roots, .int u5, .ref h0_points, .int u6, .ref h0_ahead, .int t_curves, .ref h0_ps, .ref h0_as, .ref h0_bs, .ref h0_from, .ref h0_kernelPoint, .ref h0_kernelOrder, .ref h0_marked, .ref h0_seen])), (h0_roots, .inl (k_t_roots, 10008, .inl f8)), (h0_points, .inl (k_t_points, 10300, .inl t_points)), (h0_ahead, .inl (k_t_ahead, 10008, .inl t_ahead))]) hD hS hA0 [0, 2, 3, 4] rfl
      refine va_callv (va_runV (As := []) (rest := []) ⟨hx, hb, hml, hown, hts⟩ (ctX6_list l N dC dI _ h0 h0_roots h0_points h0_ahead h0_inverses h0_ps h0_as h0_bs h0_from h0_kernelPoint h0_kernelOrder h0_marked h0_seen k_t_roots k_t_points k_t_ahead u2 u3 u4 u5 u6 t_curves f8 t_points t_ahead r13 hr13) (cwV 0 hts gX6_countOver_X6_list rfl rfl rfl (by decide +kernel) ⟨Nat.le_of_ble_eq_true rfl, Nat.le_of_ble_eq_true rfl⟩) ⟨fun a U g mk q => by obtain ⟨q0, q1, qP, qK, qN, qD⟩ := q; exact ⟨q0, q1, qP, va_K.moved (u := U) (U := U.calling g mk a) (Vm.Alike.refl U.vm) qK, nw_same (u := U) (U := U.calling g mk a) rfl qN, qD⟩, va_recv hKc hPc (ci := 5) (q0 := 0) rfl rfl, fun U hU hW => ⟨rfl, by rw [hU], by rw [hU]; exact hPc, va_K.moved hW.alike hKc, nw_warm hW hN, hDc.weaken (fun _ _ _ _ => trivial)⟩⟩ rfl rfl hl.1 rfl (lv_room (Nat.le_of_ble_eq_true rfl)) dX6_countOver_25 ⟨Nat.le_of_ble_eq_true rfl, Nat.le_of_ble_eq_true rfl⟩) hS (fun q _ h => hFc q h) hFc (fun u t H1 locs ht hvm hw hB1 hz1 hk1 hS => ?_)
      obtain ⟨u14, f15, f16⟩ := u
      obtain ⟨hP1, hK1, hD1⟩ := hB1
      rw [ht] at hP1
      have hK1 := va_K.moved hvm.symm hK1
      subst hw
      try dsimp only at h
      obtain ⟨hP, hD⟩ := va_join (wr := [(h0_inverses, .inl (k_t_inverses, 10008, .inl f7)), (h0_ps, .inl (k_t_ps, 24, .inl t_ps)), (h0_as, .inl (k_t_as, 24, .inl t_as)), (h0_bs, .inl (k_t_bs, 24, .inl t_bs))]) (w1 := [(h0, .inr (5, [.int u2, .int u3, .int u4, .ref h0_inverses, .ref h0_roots, .int u5, .ref h0_points, .int u14, .ref h0_ahead, .int t_curves, .ref h0_ps, .ref h0_as, .ref h0_bs, .ref h0_from, .ref h0_kernelPoint, .ref h0_kernelOrder, .ref h0_marked, .ref h0_seen])), (h0_roots, .inl (k_t_roots, 10008, .inl f8)), (h0_points, .inl (k_t_points, 10300, .inl f15)), (h0_ahead, .inl (k_t_ahead, 10008, .inl f16))]) hP hD [0, 2, 3, 4] [1, 5, 6, 7] rfl rfl (by decide) (by decide) hk1 hFc hP1 hD1
      generalize H1 = H at hP hS ⊢
      have hP := hP.sub (ws' := [(h0, .inr (5, [.int u2, .int u3, .int u4, .ref h0_inverses, .ref h0_roots, .int u5, .ref h0_points, .int u14, .ref h0_ahead, .int t_curves, .ref h0_ps, .ref h0_as, .ref h0_bs, .ref h0_from, .ref h0_kernelPoint, .ref h0_kernelOrder, .ref h0_marked, .ref h0_seen])), (h0_inverses, .inl (k_t_inverses, 10008, .inl f7)), (h0_roots, .inl (k_t_roots, 10008, .inl f8)), (h0_points, .inl (k_t_points, 10300, .inl f15)), (h0_ahead, .inl (k_t_ahead, 10008, .inl f16)), (h0_ps, .inl (k_t_ps, 24, .inl t_ps)), (h0_as, .inl (k_t_as, 24, .inl t_as)), (h0_bs, .inl (k_t_bs, 24, .inl t_bs))]) [4, 0, 5, 6, 7, 1, 2, 3] rfl
      have hD := hD.sub (ws' := [(h0, .inr (5, [.int u2, .int u3, .int u4, .ref h0_inverses, .ref h0_roots, .int u5, .ref h0_points, .int u14, .ref h0_ahead, .int t_curves, .ref h0_ps, .ref h0_as, .ref h0_bs, .ref h0_from, .ref h0_kernelPoint, .ref h0_kernelOrder, .ref h0_marked, .ref h0_seen])), (h0_inverses, .inl (k_t_inverses, 10008, .inl f7)), (h0_roots, .inl (k_t_roots, 10008, .inl f8)), (h0_points, .inl (k_t_points, 10300, .inl f15)), (h0_ahead, .inl (k_t_ahead, 10008, .inl f16)), (h0_ps, .inl (k_t_ps, 24, .inl t_ps)), (h0_as, .inl (k_t_as, 24, .inl t_as)), (h0_bs, .inl (k_t_bs, 24, .inl t_bs))]) [4, 0, 5, 6, 7, 1, 2, 3] (by decide) rfl
      refine lv_aload_n hx hb dX6_countOver_28 rfl (lv_at hl 0 rfl) ?_
      refine va_get (D := (dC, dI)) (ci := 5) (v := .int u2) (C := RX6) (T := TX6) (N := 18) hx hb hts (by decide +kernel) hown hK hP 0 rfl rfl 0 (by decide) (hts (.fieldLink RX6 47 "PointRingsModel" "p" "I") (by decide +kernel)) (fun _ h9 => h9) rfl dX6_countOver_29 ?_
      refine lv_i2l hx hb dX6_countOver_32 rfl ?_
      refine lv_lconst (v := 1) hx hb dX6_countOver_33 (by decide) ?_
      refine lv_ladd hx hb dX6_countOver_34 ?_
      refine lv_aload_n hx hb dX6_countOver_35 rfl (lv_at hl 0 rfl) ?_
      refine va_get (D := (dC, dI)) (ci := 5) (v := .int u14) (C := RX6) (T := TX6) (N := 18) hx hb hts (by decide +kernel) hown hK hP 0 rfl rfl 7 (by decide) (hts (.fieldLink RX6 54 "PointRingsModel" "pointMany" "I") (by decide +kernel)) (fun _ h9 => h9) rfl dX6_countOver_36 ?_
      refine lv_i2l hx hb dX6_countOver_39 rfl ?_
      refine lv_lsub hx hb dX6_countOver_40 ?_
      refine lv_topl (fun v17 ev17 => ?_)
      replace h := mi_use ev17 h
      refine lv_lstore_n (lv' := [(3, .long v17), (0, .ref h0), (1, .int a0), (2, .int a1)]) hx hb dX6_countOver_41 rfl hl (by decide) rfl (fun ls hl => ?_)
      refine lv_ldc2 (v := 2) hx hb hown (hts (.constantLong RX6 81 2) (by decide +kernel)) dX6_countOver_42 ?_
      refine lv_lstore (lv' := [(5, .long 2), (3, .long v17), (0, .ref h0), (1, .int a0), (2, .int a1)]) hx hb dX6_countOver_45 hl (by decide) rfl (fun ls hl => ?_)
      refine lv_lload_n hx hb dX6_countOver_47 rfl (lv_at hl 1 rfl) ?_
      refine lv_lstore (lv' := [(7, .long v17), (5, .long 2), (3, .long v17), (0, .ref h0), (1, .int a0), (2, .int a1)]) hx hb dX6_countOver_48 hl (by decide) rfl (fun ls hl => ?_)
      refine lv_aload_n hx hb dX6_countOver_50 rfl (lv_at hl 3 rfl) ?_
      refine va_get (D := (dC, dI)) (ci := 5) (v := .int u2) (C := RX6) (T := TX6) (N := 18) hx hb hts (by decide +kernel) hown hK hP 0 rfl rfl 0 (by decide) (hts (.fieldLink RX6 47 "PointRingsModel" "p" "I") (by decide +kernel)) (fun _ h9 => h9) rfl dX6_countOver_51 ?_
      refine lv_i2l hx hb dX6_countOver_54 rfl ?_
      refine lv_topl (fun v18 ev18 => ?_)
      replace h := mi_use ev18 h
      refine lv_lstore (lv' := [(9, .long v18), (7, .long v17), (5, .long 2), (3, .long v17), (0, .ref h0), (1, .int a0), (2, .int a1)]) hx hb dX6_countOver_55 hl (by decide) rfl (fun ls hl => ?_)
      refine lv_iconst (v := 2) hx hb dX6_countOver_57 (by decide) ?_
      refine lv_istore (lv' := [(11, .int 2), (9, .long v18), (7, .long v17), (5, .long 2), (3, .long v17), (0, .ref h0), (1, .int a0), (2, .int a1)]) hx hb dX6_countOver_58 hl (by decide) rfl (fun ls hl => ?_)
      have L60 : ∀ (n : Nat) (x19 : Int64) (x20 : Int64) (x21 : Int64) (x22 : Int32) (o : Int64 × Int64 × Int64 × Int32), mi_run (mX6_countOver_b60 N a1 v17 u2) n (x19, x20, x21, x22) = some o → (∀ (y23 : Int64) (y24 : Int64) (y25 : Int64) (y26 : Int32), o = (y23, y24, y25, y26) → ∀ (H : Heap) (locs : List Loc) (ls : Array Slot), va_P (dC, dI) vwCl [(h0, .inr (5, [.int u2, .int u3, .int u4, .ref h0_inverses, .ref h0_roots, .int u5, .ref h0_points, .int u14, .ref h0_ahead, .int t_curves, .ref h0_ps, .ref h0_as, .ref h0_bs, .ref h0_from, .ref h0_kernelPoint, .ref h0_kernelOrder, .ref h0_marked, .ref h0_seen])), (h0_inverses, .inl (k_t_inverses, 10008, .inl f7)), (h0_roots, .inl (k_t_roots, 10008, .inl f8)), (h0_points, .inl (k_t_points, 10300, .inl f15)), (h0_ahead, .inl (k_t_ahead, 10008, .inl f16)), (h0_ps, .inl (k_t_ps, 24, .inl t_ps)), (h0_as, .inl (k_t_as, 24, .inl t_as)), (h0_bs, .inl (k_t_bs, 24, .inl t_bs))] H → va_D A [(h0, .inr (5, [.int u2, .int u3, .int u4, .ref h0_inverses, .ref h0_roots, .int u5, .ref h0_points, .int u14, .ref h0_ahead, .int t_curves, .ref h0_ps, .ref h0_as, .ref h0_bs, .ref h0_from, .ref h0_kernelPoint, .ref h0_kernelOrder, .ref h0_marked, .ref h0_seen])), (h0_inverses, .inl (k_t_inverses, 10008, .inl f7)), (h0_roots, .inl (k_t_roots, 10008, .inl f8)), (h0_points, .inl (k_t_points, 10300, .inl f15)), (h0_ahead, .inl (k_t_ahead, 10008, .inl f16)), (h0_ps, .inl (k_t_ps, 24, .inl t_ps)), (h0_as, .inl (k_t_as, 24, .inl t_as)), (h0_bs, .inl (k_t_bs, 24, .inl t_bs))] → va_S A s.heap H locs → lv_has ls 14 [(5, .long y23), (7, .long y24), (9, .long y25), (11, .int y26), (3, .long v17), (0, .ref h0), (1, .int a0), (2, .int a1)] → W p l e (headSpec wsX6_countOver rmX6_countOver).room s m (([.ref h0, .int a0, .int a1] : List Value).toArray) below meth c H locs 0 0 (MQ below (va_Ql (fun (r : Int64) (u : Int32 × Int32 × Int32 × Int32 × Int32 × (Nat → Int32) × (Nat → Int32) × (Nat → Int32) × (Nat → Int32)) => (r, u) = rr) (fun (u : Int32 × Int32 × Int32 × Int32 × Int32 × (Nat → Int32) × (Nat → Int32) × (Nat → Int32) × (Nat → Int32)) t => match u with | (u0, u1, u2, u3, u4, u5, u6, u7, u8) => va_P (dC, dI) vwCl [(h0, .inr (5, [.int u0, .int u1, .int u2, .ref h0_inverses, .ref h0_roots, .int u3, .ref h0_points, .int u4, .ref h0_ahead, .int t_curves, .ref h0_ps, .ref h0_as, .ref h0_bs, .ref h0_from, .ref h0_kernelPoint, .ref h0_kernelOrder, .ref h0_marked, .ref h0_seen])), (h0_inverses, .inl (k_t_inverses, 10008, .inl u5)), (h0_roots, .inl (k_t_roots, 10008, .inl u6)), (h0_points, .inl (k_t_points, 10300, .inl u7)), (h0_ahead, .inl (k_t_ahead, 10008, .inl u8)), (h0_ps, .inl (k_t_ps, 24, .inl t_ps)), (h0_as, .inl (k_t_as, 24, .inl t_as)), (h0_bs, .inl (k_t_bs, 24, .inl t_bs))] t.heap ∧ va_K (dC, dI) vwCl [(k_t_inverses, .int), (k_t_roots, .int), (k_t_points, .int), (k_t_ahead, .int), (k_t_ps, .int), (k_t_as, .int), (k_t_bs, .int)] t ∧ va_D (A) [(h0, .inr (5, [.int u0, .int u1, .int u2, .ref h0_inverses, .ref h0_roots, .int u3, .ref h0_points, .int u4, .ref h0_ahead, .int t_curves, .ref h0_ps, .ref h0_as, .ref h0_bs, .ref h0_from, .ref h0_kernelPoint, .ref h0_kernelOrder, .ref h0_marked, .ref h0_seen])), (h0_inverses, .inl (k_t_inverses, 10008, .inl u5)), (h0_roots, .inl (k_t_roots, 10008, .inl u6)), (h0_points, .inl (k_t_points, 10300, .inl u7)), (h0_ahead, .inl (k_t_ahead, 10008, .inl u8)), (h0_ps, .inl (k_t_ps, 24, .inl t_ps)), (h0_as, .inl (k_t_as, 24, .inl t_as)), (h0_bs, .inl (k_t_bs, 24, .inl t_bs))]) (A)) (([.ref h0, .int a0, .int a1] : List Value).toArray) s 0 0 A) (F0 m 105 ls [])) → ∀ (H : Heap) (locs : List Loc) (ls : Array Slot), va_P (dC, dI) vwCl [(h0, .inr (5, [.int u2, .int u3, .int u4, .ref h0_inverses, .ref h0_roots, .int u5, .ref h0_points, .int u14, .ref h0_ahead, .int t_curves, .ref h0_ps, .ref h0_as, .ref h0_bs, .ref h0_from, .ref h0_kernelPoint, .ref h0_kernelOrder, .ref h0_marked, .ref h0_seen])), (h0_inverses, .inl (k_t_inverses, 10008, .inl f7)), (h0_roots, .inl (k_t_roots, 10008, .inl f8)), (h0_points, .inl (k_t_points, 10300, .inl f15)), (h0_ahead, .inl (k_t_ahead, 10008, .inl f16)), (h0_ps, .inl (k_t_ps, 24, .inl t_ps)), (h0_as, .inl (k_t_as, 24, .inl t_as)), (h0_bs, .inl (k_t_bs, 24, .inl t_bs))] H → va_D A [(h0, .inr (5, [.int u2, .int u3, .int u4, .ref h0_inverses, .ref h0_roots, .int u5, .ref h0_points, .int u14, .ref h0_ahead, .int t_curves, .ref h0_ps, .ref h0_as, .ref h0_bs, .ref h0_from, .ref h0_kernelPoint, .ref h0_kernelOrder, .ref h0_marked, .ref h0_seen])), (h0_inverses, .inl (k_t_inverses, 10008, .inl f7)), (h0_roots, .inl (k_t_roots, 10008, .inl f8)), (h0_points, .inl (k_t_points, 10300, .inl f15)), (h0_ahead, .inl (k_t_ahead, 10008, .inl f16)), (h0_ps, .inl (k_t_ps, 24, .inl t_ps)), (h0_as, .inl (k_t_as, 24, .inl t_as)), (h0_bs, .inl (k_t_bs, 24, .inl t_bs))] → va_S A s.heap H locs → lv_has ls 14 [(5, .long x19), (7, .long x20), (9, .long x21), (11, .int x22), (3, .long v17), (0, .ref h0), (1, .int a0), (2, .int a1)] → W p l e (headSpec wsX6_countOver rmX6_countOver).room s m (([.ref h0, .int a0, .int a1] : List Value).toArray) below meth c H locs 0 0 (MQ below (va_Ql (fun (r : Int64) (u : Int32 × Int32 × Int32 × Int32 × Int32 × (Nat → Int32) × (Nat → Int32) × (Nat → Int32) × (Nat → Int32)) => (r, u) = rr) (fun (u : Int32 × Int32 × Int32 × Int32 × Int32 × (Nat → Int32) × (Nat → Int32) × (Nat → Int32) × (Nat → Int32)) t => match u with | (u0, u1, u2, u3, u4, u5, u6, u7, u8) => va_P (dC, dI) vwCl [(h0, .inr (5, [.int u0, .int u1, .int u2, .ref h0_inverses, .ref h0_roots, .int u3, .ref h0_points, .int u4, .ref h0_ahead, .int t_curves, .ref h0_ps, .ref h0_as, .ref h0_bs, .ref h0_from, .ref h0_kernelPoint, .ref h0_kernelOrder, .ref h0_marked, .ref h0_seen])), (h0_inverses, .inl (k_t_inverses, 10008, .inl u5)), (h0_roots, .inl (k_t_roots, 10008, .inl u6)), (h0_points, .inl (k_t_points, 10300, .inl u7)), (h0_ahead, .inl (k_t_ahead, 10008, .inl u8)), (h0_ps, .inl (k_t_ps, 24, .inl t_ps)), (h0_as, .inl (k_t_as, 24, .inl t_as)), (h0_bs, .inl (k_t_bs, 24, .inl t_bs))] t.heap ∧ va_K (dC, dI) vwCl [(k_t_inverses, .int), (k_t_roots, .int), (k_t_points, .int), (k_t_ahead, .int), (k_t_ps, .int), (k_t_as, .int), (k_t_bs, .int)] t ∧ va_D (A) [(h0, .inr (5, [.int u0, .int u1, .int u2, .ref h0_inverses, .ref h0_roots, .int u3, .ref h0_points, .int u4, .ref h0_ahead, .int t_curves, .ref h0_ps, .ref h0_as, .ref h0_bs, .ref h0_from, .ref h0_kernelPoint, .ref h0_kernelOrder, .ref h0_marked, .ref h0_seen])), (h0_inverses, .inl (k_t_inverses, 10008, .inl u5)), (h0_roots, .inl (k_t_roots, 10008, .inl u6)), (h0_points, .inl (k_t_points, 10300, .inl u7)), (h0_ahead, .inl (k_t_ahead, 10008, .inl u8)), (h0_ps, .inl (k_t_ps, 24, .inl t_ps)), (h0_as, .inl (k_t_as, 24, .inl t_as)), (h0_bs, .inl (k_t_bs, 24, .inl t_bs))]) (A)) (([.ref h0, .int a0, .int a1] : List Value).toArray) s 0 0 A) (F0 m 60 ls []) := by
        intro n
        induction n with
        | zero => intro x19 x20 x21 x22 o h; exact absurd h (mi_run_0 _ _ _)
        | succ n ih =>
          intro x19 x20 x21 x22 o h hkE H locs ls hP hD hS hl
          obtain ⟨w, h, hA, hB⟩ := mi_run_s h
          dsimp only [mX6_countOver_b60] at h
          refine lv_iload hx hb dX6_countOver_60 (lv_at hl 3 rfl) ?_
          refine lv_iload_n hx hb dX6_countOver_62 rfl (lv_at hl 7 rfl) ?_
          refine lv_icmp_gt (tgt := 105) hx hb dX6_countOver_63 (by decide) (fun c27 => ?_) (fun c27 => ?_)
          · replace h := (if_pos c27).symm.trans h
            exact hkE _ _ _ _ (hB _ (Option.some.inj h).symm) _ _ ls hP hD hS (lv_sub hl [0, 1, 2, 3, 4, 5, 6, 7] rfl)
          · replace h := (if_neg c27).symm.trans h
            refine lv_lload_n hx hb dX6_countOver_66 rfl (lv_at hl 4 rfl) ?_
            refine lv_lload hx hb dX6_countOver_67 (lv_at hl 1 rfl) ?_
            refine lv_lmul hx hb dX6_countOver_69 ?_
            refine lv_aload_n hx hb dX6_countOver_70 rfl (lv_at hl 5 rfl) ?_
            refine va_get (D := (dC, dI)) (ci := 5) (v := .int u2) (C := RX6) (T := TX6) (N := 18) hx hb hts (by decide +kernel) hown hK hP 0 rfl rfl 0 (by decide) (hts (.fieldLink RX6 47 "PointRingsModel" "p" "I") (by decide +kernel)) (fun _ h9 => h9) rfl dX6_countOver_71 ?_
            refine lv_i2l hx hb dX6_countOver_74 rfl ?_
            refine lv_lload hx hb dX6_countOver_75 (lv_at hl 0 rfl) ?_
            refine lv_lmul hx hb dX6_countOver_77 ?_
            refine lv_lsub hx hb dX6_countOver_78 ?_
            refine lv_topl (fun v28 ev28 => ?_)
            replace h := mi_use ev28 h
            refine lv_lstore (lv' := [(12, .long v28), (5, .long x19), (7, .long x20), (9, .long x21), (11, .int x22), (3, .long v17), (0, .ref h0), (1, .int a0), (2, .int a1)]) hx hb dX6_countOver_79 hl (by decide) rfl (fun ls hl => ?_)
            refine lv_lload hx hb dX6_countOver_81 (lv_at hl 2 rfl) ?_
            refine lv_lstore (lv' := [(5, .long x20), (12, .long v28), (7, .long x20), (9, .long x21), (11, .int x22), (3, .long v17), (0, .ref h0), (1, .int a0), (2, .int a1)]) hx hb dX6_countOver_83 hl (by decide) rfl (fun ls hl => ?_)
            refine lv_lload hx hb dX6_countOver_85 (lv_at hl 1 rfl) ?_
            refine lv_lstore (lv' := [(7, .long v28), (5, .long x20), (12, .long v28), (9, .long x21), (11, .int x22), (3, .long v17), (0, .ref h0), (1, .int a0), (2, .int a1)]) hx hb dX6_countOver_87 hl (by decide) rfl (fun ls hl => ?_)
            refine lv_lload hx hb dX6_countOver_89 (lv_at hl 3 rfl) ?_
            refine lv_aload_n hx hb dX6_countOver_91 rfl (lv_at hl 6 rfl) ?_
            refine va_get (D := (dC, dI)) (ci := 5) (v := .int u2) (C := RX6) (T := TX6) (N := 18) hx hb hts (by decide +kernel) hown hK hP 0 rfl rfl 0 (by decide) (hts (.fieldLink RX6 47 "PointRingsModel" "p" "I") (by decide +kernel)) (fun _ h9 => h9) rfl dX6_countOver_92 ?_
            refine lv_i2l hx hb dX6_countOver_95 rfl ?_
            refine lv_lmul hx hb dX6_countOver_96 ?_
            refine lv_topl (fun v29 ev29 => ?_)
            replace h := mi_use ev29 h
            refine lv_lstore (lv' := [(9, .long v29), (7, .long v28), (5, .long x20), (12, .long v28), (11, .int x22), (3, .long v17), (0, .ref h0), (1, .int a0), (2, .int a1)]) hx hb dX6_countOver_97 hl (by decide) rfl (fun ls hl => ?_)
            obtain ⟨v30, ev30⟩ : ∃ z : Int32, z = x22 + 1 := ⟨_, rfl⟩
            refine lv_iinc (v := v30) (lv' := [(11, .int v30), (9, .long v29), (7, .long v28), (5, .long x20), (12, .long v28), (3, .long v17), (0, .ref h0), (1, .int a0), (2, .int a1)]) hx hb dX6_countOver_99 hl (k := 4) rfl (by rw [ev30]; rfl) (by decide) rfl (fun ls hl => ?_)
            replace h := mi_use ev30 h
            refine lv_goto (tgt := 60) hx hb dX6_countOver_102 (by decide) ?_
            exact ih _ _ _ _ _ (hA _ (Option.some.inj h).symm) hkE _ _ ls hP hD hS (lv_sub hl [3, 2, 1, 0, 5, 6, 7, 8] rfl)
      obtain ⟨o31, ho31, h⟩ := Option.bind_eq_some_iff.mp h
      refine L60 N _ _ _ _ o31 ho31 ?_ _ _ ls hP hD hS (lv_sub hl [3, 2, 1, 0, 4, 5, 6, 7] rfl)
      intro y23 y24 y25 y26 eo H locs ls hP hD hS hl
      subst eo
      try dsimp only at h
      refine lv_lload hx hb dX6_countOver_105 (lv_at hl 2 rfl) ?_
      refine lv_lconst (v := 1) hx hb dX6_countOver_107 (by decide) ?_
      refine lv_ladd hx hb dX6_countOver_108 ?_
      refine lv_lload hx hb dX6_countOver_109 (lv_at hl 1 rfl) ?_
      refine lv_lsub hx hb dX6_countOver_111 ?_
      have hv : ((y25 + 1) - y24, u2, u3, u4, u5, u14, f7, f8, f15, f16) = rr := Option.some.inj h
      have hP9 := hP.sub (ws' := [(h0, .inr (5, [.int u2, .int u3, .int u4, .ref h0_inverses, .ref h0_roots, .int u5, .ref h0_points, .int u14, .ref h0_ahead, .int t_curves, .ref h0_ps, .ref h0_as, .ref h0_bs, .ref h0_from, .ref h0_kernelPoint, .ref h0_kernelOrder, .ref h0_marked, .ref h0_seen])), (h0_inverses, .inl (k_t_inverses, 10008, .inl f7)), (h0_roots, .inl (k_t_roots, 10008, .inl f8)), (h0_points, .inl (k_t_points, 10300, .inl f15)), (h0_ahead, .inl (k_t_ahead, 10008, .inl f16)), (h0_ps, .inl (k_t_ps, 24, .inl t_ps)), (h0_as, .inl (k_t_as, 24, .inl t_as)), (h0_bs, .inl (k_t_bs, 24, .inl t_bs))]) [0, 1, 2, 3, 4, 5, 6, 7] rfl
      have hD9 := hD.sub (ws' := [(h0, .inr (5, [.int u2, .int u3, .int u4, .ref h0_inverses, .ref h0_roots, .int u5, .ref h0_points, .int u14, .ref h0_ahead, .int t_curves, .ref h0_ps, .ref h0_as, .ref h0_bs, .ref h0_from, .ref h0_kernelPoint, .ref h0_kernelOrder, .ref h0_marked, .ref h0_seen])), (h0_inverses, .inl (k_t_inverses, 10008, .inl f7)), (h0_roots, .inl (k_t_roots, 10008, .inl f8)), (h0_points, .inl (k_t_points, 10300, .inl f15)), (h0_ahead, .inl (k_t_ahead, 10008, .inl f16)), (h0_ps, .inl (k_t_ps, 24, .inl t_ps)), (h0_as, .inl (k_t_as, 24, .inl t_as)), (h0_bs, .inl (k_t_bs, 24, .inl t_bs))]) [0, 1, 2, 3, 4, 5, 6, 7] (by decide) rfl
      have hK9 := hK.sub (tys' := [(k_t_inverses, .int), (k_t_roots, .int), (k_t_points, .int), (k_t_ahead, .int), (k_t_ps, .int), (k_t_as, .int), (k_t_bs, .int)]) [0, 1, 2, 3, 4, 5, 6] rfl
      exact W.lret (v := ((y25 + 1) - y24)) hx hb hr (fun t ht hW => ⟨⟨(y25 + 1) - y24, (u2, u3, u4, u5, u14, f7, f8, f15, f16), rfl, hv, by rw [ht]; exact hP9, va_K.moved hW.alike hK9, hD9⟩, hS.F ht⟩) hS.2.2 dX6_countOver_112
    · replace h := (if_pos c12).symm.trans h
      refine lv_ldc2 (v := (-2)) hx hb hown (hts (.constantLong RX6 154 (-2)) (by decide +kernel)) dX6_countOver_20 ?_
      have hv : ((-2), u2, u3, u4, u5, u6, f7, f8, t_points, t_ahead) = rr := Option.some.inj h
      have hP9 := hP.sub (ws' := [(h0, .inr (5, [.int u2, .int u3, .int u4, .ref h0_inverses, .ref h0_roots, .int u5, .ref h0_points, .int u6, .ref h0_ahead, .int t_curves, .ref h0_ps, .ref h0_as, .ref h0_bs, .ref h0_from, .ref h0_kernelPoint, .ref h0_kernelOrder, .ref h0_marked, .ref h0_seen])), (h0_inverses, .inl (k_t_inverses, 10008, .inl f7)), (h0_roots, .inl (k_t_roots, 10008, .inl f8)), (h0_points, .inl (k_t_points, 10300, .inl t_points)), (h0_ahead, .inl (k_t_ahead, 10008, .inl t_ahead)), (h0_ps, .inl (k_t_ps, 24, .inl t_ps)), (h0_as, .inl (k_t_as, 24, .inl t_as)), (h0_bs, .inl (k_t_bs, 24, .inl t_bs))]) [0, 1, 2, 3, 4, 5, 6, 7] rfl
      have hD9 := hD.sub (ws' := [(h0, .inr (5, [.int u2, .int u3, .int u4, .ref h0_inverses, .ref h0_roots, .int u5, .ref h0_points, .int u6, .ref h0_ahead, .int t_curves, .ref h0_ps, .ref h0_as, .ref h0_bs, .ref h0_from, .ref h0_kernelPoint, .ref h0_kernelOrder, .ref h0_marked, .ref h0_seen])), (h0_inverses, .inl (k_t_inverses, 10008, .inl f7)), (h0_roots, .inl (k_t_roots, 10008, .inl f8)), (h0_points, .inl (k_t_points, 10300, .inl t_points)), (h0_ahead, .inl (k_t_ahead, 10008, .inl t_ahead)), (h0_ps, .inl (k_t_ps, 24, .inl t_ps)), (h0_as, .inl (k_t_as, 24, .inl t_as)), (h0_bs, .inl (k_t_bs, 24, .inl t_bs))]) [0, 1, 2, 3, 4, 5, 6, 7] (by decide) rfl
      have hK9 := hK.sub (tys' := [(k_t_inverses, .int), (k_t_roots, .int), (k_t_points, .int), (k_t_ahead, .int), (k_t_ps, .int), (k_t_as, .int), (k_t_bs, .int)]) [0, 1, 2, 3, 4, 5, 6] rfl
      exact W.lret (v := (-2)) hx hb hr (fun t ht hW => ⟨⟨(-2), (u2, u3, u4, u5, u6, f7, f8, t_points, t_ahead), rfl, hv, by rw [ht]; exact hP9, va_K.moved hW.alike hK9, hD9⟩, hS.F ht⟩) hS.2.2 dX6_countOver_23
def mX6_isBound (N : Nat) (t_p : Int32) (a0 : Int32) : Option (Int32) := mi_let ((a0.toInt64 - t_p.toInt64) - 1) (fun v1 => mi_let (lg_cmp (v1 * v1) (4 * t_p.toInt64)) (fun v2 => if 0 < v2 then some 0 else some 1))
abbrev rmX6_isBound : Room := { frames := 0, cells := 0, slots := 0, locals := 0 }
set_option maxHeartbeats 4000000 in
set_option maxRecDepth 100000 in
theorem ctX6_isBound (l : Launch) (N : Nat) (dC : Nat → ClassId) (dI : Nat → Nat → Nat) (h0 : Nat) (h0_inverses : Nat) (h0_roots : Nat) (h0_points : Nat) (h0_ahead : Nat) (h0_ps : Nat) (h0_as : Nat) (h0_bs : Nat) (h0_from : Nat) (h0_kernelPoint : Nat) (h0_kernelOrder : Nat) (h0_marked : Nat) (h0_seen : Nat) (t_p : Int32) (t_a : Int32) (t_b : Int32) (t_rooted : Int32) (t_pointMany : Int32) (t_curves : Int32) (a0 : Int32) (rr : Int32) (h : mX6_isBound N t_p a0 = some rr) : Met l yX6_isBound wsX6_isBound rmX6_isBound (va_Pc [.ref h0, .int a0] (fun U => va_P (dC, dI) vwCl [(h0, .inr (5, [.int t_p, .int t_a, .int t_b, .ref h0_inverses, .ref h0_roots, .int t_rooted, .ref h0_points, .int t_pointMany, .ref h0_ahead, .int t_curves, .ref h0_ps, .ref h0_as, .ref h0_bs, .ref h0_from, .ref h0_kernelPoint, .ref h0_kernelOrder, .ref h0_marked, .ref h0_seen]))] U.heap ∧ va_K (dC, dI) vwCl [] U ∧ nw_all U)) (vp_Si (fun r => r = rr)) 0 0 (fun _ => False) := by
  refine Met.ofW (cc := cX6_isBound) (maxL := 4) (ret := (some .boolean)) (by decide) rfl ?_
  intro p e s m args below meth c s₁ B hml hv
  obtain ⟨rfl, hP, hK, hN⟩ := hv
  have hx := B.exec
  have hb := B.bytes
  have hr := B.returns
  have hts := atoms_spec (ws := wsX6_isBound) B.pre
  have hown : s.vm.findClass RX6 = some m.cls := findClass_of_methodNamed B.named
  have hlocks := B.notSynchronized
  have hl := lv_entry ([.ref h0, .int a0]) (n := 4) (Nat.le_of_ble_eq_true rfl)
  rw [lg_entry_eq]
  generalize (lg_sl ([.ref h0, .int a0]) ++ List.replicate (4 - (lg_sl ([.ref h0, .int a0])).length) Slot.unset).toArray = ls at hl ⊢
  have hl : lv_has ls 4 [(0, .ref h0), (1, .int a0)] := hl
  dsimp only [mX6_isBound] at h
  refine lv_iload_n hx hb dX6_isBound_0 rfl (lv_at hl 1 rfl) ?_
  refine lv_i2l hx hb dX6_isBound_1 rfl ?_
  refine lv_aload_n hx hb dX6_isBound_2 rfl (lv_at hl 0 rfl) ?_
  refine va_get (D := (dC, dI)) (ci := 5) (v := .int t_p) (C := RX6) (T := TX6) (N := 18) hx hb hts (by decide +kernel) hown hK hP 0 rfl rfl 0 (by decide) (hts (.fieldLink RX6 47 "PointRingsModel" "p" "I") (by decide +kernel)) (fun _ h9 => h9) rfl dX6_isBound_3 ?_
  refine lv_i2l hx hb dX6_isBound_6 rfl ?_
  refine lv_lsub hx hb dX6_isBound_7 ?_
  refine lv_lconst (v := 1) hx hb dX6_isBound_8 (by decide) ?_
  refine lv_lsub hx hb dX6_isBound_9 ?_
  refine lv_topl (fun v1 ev1 => ?_)
  replace h := mi_use ev1 h
  refine lv_lstore_n (lv' := [(2, .long v1), (0, .ref h0), (1, .int a0)]) hx hb dX6_isBound_10 rfl hl (by decide) rfl (fun ls hl => ?_)
  refine lv_lload_n hx hb dX6_isBound_11 rfl (lv_at hl 0 rfl) ?_
  refine lv_lload_n hx hb dX6_isBound_12 rfl (lv_at hl 0 rfl) ?_
  refine lv_lmul hx hb dX6_isBound_13 ?_
  refine lv_ldc2 (v := 4) hx hb hown (hts (.constantLong RX6 108 4) (by decide +kernel)) dX6_isBound_14 ?_
  refine lv_aload_n hx hb dX6_isBound_17 rfl (lv_at hl 1 rfl) ?_
  refine va_get (D := (dC, dI)) (ci := 5) (v := .int t_p) (C := RX6) (T := TX6) (N := 18) hx hb hts (by decide +kernel) hown hK hP 0 rfl rfl 0 (by decide) (hts (.fieldLink RX6 47 "PointRingsModel" "p" "I") (by decide +kernel)) (fun _ h9 => h9) rfl dX6_isBound_18 ?_
  refine lv_i2l hx hb dX6_isBound_21 rfl ?_
  refine lv_lmul hx hb dX6_isBound_22 ?_
  refine W.lcmp hx hb dX6_isBound_23 ?_
  refine lv_topi (fun v2 ev2 => ?_)
  replace h := mi_use ev2 h
  refine lv_if_gt (tgt := 31) hx hb dX6_isBound_24 (by decide) (fun c3 => ?_) (fun c3 => ?_)
  · replace h := (if_pos c3).symm.trans h
    refine lv_iconst (v := 0) hx hb dX6_isBound_31 (by decide) ?_
    have hv : 0 = rr := Option.some.inj h
    exact W.zret (v := 0) hx hb hr (by decide) (fun t ht hW => ⟨_, rfl, hv, ht⟩) (fun q hq => absurd hq List.not_mem_nil) dX6_isBound_32
  · replace h := (if_neg c3).symm.trans h
    refine lv_iconst (v := 1) hx hb dX6_isBound_27 (by decide) ?_
    refine lv_goto (tgt := 32) hx hb dX6_isBound_28 (by decide) ?_
    have hv : 1 = rr := Option.some.inj h
    exact W.zret (v := 1) hx hb hr (by decide) (fun t ht hW => ⟨_, rfl, hv, ht⟩) (fun q hq => absurd hq List.not_mem_nil) dX6_isBound_32
def mX6_least_b7 (N : Nat) (t_p : Int32) (st : Int32) : Option ((Int32) ⊕ (Int32)) :=
  match st with
  | x2 => (mX6_isBound N t_p (x2 - 1)).bind (fun r4 => if r4 = 0 then some (.inr x2) else mi_let (x2 + (-1)) (fun v6 => some (.inl v6)))
def mX6_least (N : Nat) (t_p : Int32) : Option (Int32) := mi_let (t_p + 1) (fun v1 => (mi_run (mX6_least_b7 N t_p) N v1).bind (fun y3 => some y3))
abbrev rmX6_least : Room := { frames := 1, cells := 0, slots := 0, locals := 23 }
set_option maxHeartbeats 4000000 in
set_option maxRecDepth 100000 in
theorem ctX6_least (l : Launch) (N : Nat) (dC : Nat → ClassId) (dI : Nat → Nat → Nat) (h0 : Nat) (h0_inverses : Nat) (h0_roots : Nat) (h0_points : Nat) (h0_ahead : Nat) (h0_ps : Nat) (h0_as : Nat) (h0_bs : Nat) (h0_from : Nat) (h0_kernelPoint : Nat) (h0_kernelOrder : Nat) (h0_marked : Nat) (h0_seen : Nat) (t_p : Int32) (t_a : Int32) (t_b : Int32) (t_rooted : Int32) (t_pointMany : Int32) (t_curves : Int32) (rr : Int32) (h : mX6_least N t_p = some rr) : Met l yX6_least wsX6_least rmX6_least (va_Pc [.ref h0] (fun U => va_P (dC, dI) vwCl [(h0, .inr (5, [.int t_p, .int t_a, .int t_b, .ref h0_inverses, .ref h0_roots, .int t_rooted, .ref h0_points, .int t_pointMany, .ref h0_ahead, .int t_curves, .ref h0_ps, .ref h0_as, .ref h0_bs, .ref h0_from, .ref h0_kernelPoint, .ref h0_kernelOrder, .ref h0_marked, .ref h0_seen]))] U.heap ∧ va_K (dC, dI) vwCl [] U ∧ nw_all U)) (vp_Si (fun r => r = rr)) 0 0 (fun _ => False) := by
  refine Met.ofW (cc := cX6_least) (maxL := 2) (ret := (some .int)) (by decide) rfl ?_
  intro p e s m args below meth c s₁ B hml hv
  obtain ⟨rfl, hP, hK, hN⟩ := hv
  have hx := B.exec
  have hb := B.bytes
  have hr := B.returns
  have hts := atoms_spec (ws := wsX6_least) B.pre
  have hown : s.vm.findClass RX6 = some m.cls := findClass_of_methodNamed B.named
  have hlocks := B.notSynchronized
  have hl := lv_entry ([.ref h0]) (n := 2) (Nat.le_of_ble_eq_true rfl)
  rw [lg_entry_eq]
  generalize (lg_sl ([.ref h0]) ++ List.replicate (2 - (lg_sl ([.ref h0])).length) Slot.unset).toArray = ls at hl ⊢
  have hl : lv_has ls 2 [(0, .ref h0)] := hl
  dsimp only [mX6_least] at h
  refine lv_aload_n hx hb dX6_least_0 rfl (lv_at hl 0 rfl) ?_
  refine va_get (D := (dC, dI)) (ci := 5) (v := .int t_p) (C := RX6) (T := TX6) (N := 18) hx hb hts (by decide +kernel) hown hK hP 0 rfl rfl 0 (by decide) (hts (.fieldLink RX6 47 "PointRingsModel" "p" "I") (by decide +kernel)) (fun _ h9 => h9) rfl dX6_least_1 ?_
  refine lv_iconst (v := 1) hx hb dX6_least_4 (by decide) ?_
  refine lv_iadd hx hb dX6_least_5 ?_
  refine lv_topi (fun v1 ev1 => ?_)
  replace h := mi_use ev1 h
  refine lv_istore_n (lv' := [(1, .int v1), (0, .ref h0)]) hx hb dX6_least_6 rfl hl (by decide) rfl (fun ls hl => ?_)
  have L7 : ∀ (n : Nat) (x2 : Int32) (o : Int32), mi_run (mX6_least_b7 N t_p) n x2 = some o → (∀ (y3 : Int32), o = y3 → ∀ ls, lv_has ls 2 [(1, .int y3), (0, .ref h0)] → W p l e (headSpec wsX6_least rmX6_least).room s m (([.ref h0] : List Value).toArray) below meth c s.heap [] 0 0 (MQ below (vp_Si (fun r => r = rr)) (([.ref h0] : List Value).toArray) s 0 0 (fun _ => False)) (F0 m 23 ls [])) → ∀ ls, lv_has ls 2 [(1, .int x2), (0, .ref h0)] → W p l e (headSpec wsX6_least rmX6_least).room s m (([.ref h0] : List Value).toArray) below meth c s.heap [] 0 0 (MQ below (vp_Si (fun r => r = rr)) (([.ref h0] : List Value).toArray) s 0 0 (fun _ => False)) (F0 m 7 ls []) := by
    intro n
    induction n with
    | zero => intro x2 o h; exact absurd h (mi_run_0 _ _ _)
    | succ n ih =>
      intro x2 o h hkE ls hl
      obtain ⟨w, h, hA, hB⟩ := mi_run_s h
      dsimp only [mX6_least_b7] at h
      refine lv_aload_n hx hb dX6_least_7 rfl (lv_at hl 1 rfl) ?_
      refine lv_iload_n hx hb dX6_least_8 rfl (lv_at hl 0 rfl) ?_
      refine lv_iconst (v := 1) hx hb dX6_least_9 (by decide) ?_
      refine lv_isub hx hb dX6_least_10 ?_
      obtain ⟨r4, hr4, h⟩ := Option.bind_eq_some_iff.mp h
      have hPc := hP.sub (ws' := [(h0, .inr (5, [.int t_p, .int t_a, .int t_b, .ref h0_inverses, .ref h0_roots, .int t_rooted, .ref h0_points, .int t_pointMany, .ref h0_ahead, .int t_curves, .ref h0_ps, .ref h0_as, .ref h0_bs, .ref h0_from, .ref h0_kernelPoint, .ref h0_kernelOrder, .ref h0_marked, .ref h0_seen]))]) [0] rfl
      have hKc := hK.sub (tys' := []) [] rfl
      refine vp_callSi (W.runV (As := [.int (x2 - 1)]) (rest := []) ⟨hx, hb, hml, hown, hts⟩ (ctX6_isBound l N dC dI  h0 h0_inverses h0_roots h0_points h0_ahead h0_ps h0_as h0_bs h0_from h0_kernelPoint h0_kernelOrder h0_marked h0_seen t_p t_a t_b t_rooted t_pointMany t_curves (x2 - 1) r4 hr4) (cwV 1 hts gX6_least_X6_isBound rfl rfl rfl (by decide +kernel) ⟨Nat.le_of_ble_eq_true rfl, Nat.le_of_ble_eq_true rfl⟩) ⟨fun a U g mk q => by obtain ⟨q0, qP, qK, qN⟩ := q; exact ⟨q0, qP, va_K.moved (u := U) (U := U.calling g mk a) (Vm.Alike.refl U.vm) qK, nw_same (u := U) (U := U.calling g mk a) rfl qN⟩, va_recv hKc hPc (ci := 5) (q0 := 0) rfl rfl, fun U hU hW => ⟨rfl, by rw [hU]; exact hPc, va_K.moved hW.alike hKc, nw_warm hW hN⟩⟩ rfl rfl hl.1 rfl (lv_room (Nat.le_of_ble_eq_true rfl)) dX6_least_11 ⟨Nat.le_of_ble_eq_true rfl, Nat.le_of_ble_eq_true rfl⟩) (fun q9 eq9 => ?_)
      subst q9
      refine lv_if_eq (tgt := 23) hx hb dX6_least_14 (by decide) (fun c5 => ?_) (fun c5 => ?_)
      · replace h := (if_pos c5).symm.trans h
        exact hkE _ (hB _ (Option.some.inj h).symm) ls (lv_sub hl [0, 1] rfl)
      · replace h := (if_neg c5).symm.trans h
        obtain ⟨v6, ev6⟩ : ∃ z : Int32, z = x2 + (-1) := ⟨_, rfl⟩
        refine lv_iinc (v := v6) (lv' := [(1, .int v6), (0, .ref h0)]) hx hb dX6_least_17 hl (k := 0) rfl (by rw [ev6]; rfl) (by decide) rfl (fun ls hl => ?_)
        replace h := mi_use ev6 h
        refine lv_goto (tgt := 7) hx hb dX6_least_20 (by decide) ?_
        exact ih _ _ (hA _ (Option.some.inj h).symm) hkE ls (lv_sub hl [0, 1] rfl)
  obtain ⟨o7, ho7, h⟩ := Option.bind_eq_some_iff.mp h
  refine L7 N _ o7 ho7 ?_ ls (lv_sub hl [0, 1] rfl)
  intro y3 eo ls hl
  subst o7
  refine lv_iload_n hx hb dX6_least_23 rfl (lv_at hl 0 rfl) ?_
  have hv : y3 = rr := Option.some.inj h
  exact W.iret (v := y3) hx hb hr (fun t ht hW => ⟨_, rfl, hv, ht⟩) (fun q hq => absurd hq List.not_mem_nil) dX6_least_24
def mX6_bound (N : Nat) (t_p : Int32) (t_a : Int32) (t_b : Int32) (t_rooted : Int32) (t_pointMany : Int32) (t_curves : Int32) (t_inverses : Nat → Int32) (t_roots : Nat → Int32) (t_ps : Nat → Int32) (t_as : Nat → Int32) (t_bs : Nat → Int32) (a0 : Int32) (a1 : Int32) : Option (Int32 × Int32 × Int32 × Int32 × Int32 × Int32 × (Nat → Int32) × (Nat → Int32)) := (mX6_has N t_p t_a t_b t_rooted t_pointMany t_curves t_inverses t_roots t_ps t_as t_bs a0).bind (fun r1 => match r1 with | (r9, u2, u3, u4, u5, u6, f7, f8) => if r9 = 0 then some ((-2), u2, u3, u4, u5, u6, f7, f8) else (mX6_in N a1.toInt64 0 1).bind (fun r11 => if r11 = 0 then some ((-2), u2, u3, u4, u5, u6, f7, f8) else if a1 = 0 then (mX6_least N u2).bind (fun r15 => some (r15, u2, u3, u4, u5, u6, f7, f8)) else (mX6_least N u2).bind (fun r14 => some (((2 * u2) + 2) - r14, u2, u3, u4, u5, u6, f7, f8))))
abbrev rmX6_bound : Room := { frames := 3, cells := 0, slots := 0, locals := 66 }
set_option maxHeartbeats 4000000 in
set_option maxRecDepth 100000 in
theorem ctX6_bound (l : Launch) (N : Nat) (dC : Nat → ClassId) (dI : Nat → Nat → Nat) (sz : Nat) (h0 : Nat) (h0_inverses : Nat) (h0_roots : Nat) (h0_ps : Nat) (h0_as : Nat) (h0_bs : Nat) (h0_points : Nat) (h0_ahead : Nat) (h0_from : Nat) (h0_kernelPoint : Nat) (h0_kernelOrder : Nat) (h0_marked : Nat) (h0_seen : Nat) (k_t_inverses : ClassId) (k_t_roots : ClassId) (k_t_ps : ClassId) (k_t_as : ClassId) (k_t_bs : ClassId) (t_p : Int32) (t_a : Int32) (t_b : Int32) (t_rooted : Int32) (t_pointMany : Int32) (t_curves : Int32) (t_inverses : Nat → Int32) (t_roots : Nat → Int32) (t_ps : Nat → Int32) (t_as : Nat → Int32) (t_bs : Nat → Int32) (a0 : Int32) (a1 : Int32) (rr : Int32 × Int32 × Int32 × Int32 × Int32 × Int32 × (Nat → Int32) × (Nat → Int32)) (h : mX6_bound N t_p t_a t_b t_rooted t_pointMany t_curves t_inverses t_roots t_ps t_as t_bs a0 a1 = some rr) : Met l yX6_bound wsX6_bound rmX6_bound (va_Pc [.ref h0, .int a0, .int a1] (fun U => U.heap.size = sz ∧ va_P (dC, dI) vwCl [(h0, .inr (5, [.int t_p, .int t_a, .int t_b, .ref h0_inverses, .ref h0_roots, .int t_rooted, .ref h0_points, .int t_pointMany, .ref h0_ahead, .int t_curves, .ref h0_ps, .ref h0_as, .ref h0_bs, .ref h0_from, .ref h0_kernelPoint, .ref h0_kernelOrder, .ref h0_marked, .ref h0_seen])), (h0_inverses, .inl (k_t_inverses, 10008, .inl t_inverses)), (h0_roots, .inl (k_t_roots, 10008, .inl t_roots)), (h0_ps, .inl (k_t_ps, 24, .inl t_ps)), (h0_as, .inl (k_t_as, 24, .inl t_as)), (h0_bs, .inl (k_t_bs, 24, .inl t_bs))] U.heap ∧ va_K (dC, dI) vwCl [(k_t_inverses, .int), (k_t_roots, .int), (k_t_ps, .int), (k_t_as, .int), (k_t_bs, .int)] U ∧ nw_all U ∧ va_D (fun _ => True) [(h0, .inr (5, [.int t_p, .int t_a, .int t_b, .ref h0_inverses, .ref h0_roots, .int t_rooted, .ref h0_points, .int t_pointMany, .ref h0_ahead, .int t_curves, .ref h0_ps, .ref h0_as, .ref h0_bs, .ref h0_from, .ref h0_kernelPoint, .ref h0_kernelOrder, .ref h0_marked, .ref h0_seen])), (h0_inverses, .inl (k_t_inverses, 10008, .inl t_inverses)), (h0_roots, .inl (k_t_roots, 10008, .inl t_roots)), (h0_ps, .inl (k_t_ps, 24, .inl t_ps)), (h0_as, .inl (k_t_as, 24, .inl t_as)), (h0_bs, .inl (k_t_bs, 24, .inl t_bs))])) (va_Qi (fun (r : Int32) (u : Int32 × Int32 × Int32 × Int32 × Int32 × (Nat → Int32) × (Nat → Int32)) => (r, u) = rr) (fun (u : Int32 × Int32 × Int32 × Int32 × Int32 × (Nat → Int32) × (Nat → Int32)) t => match u with | (u0, u1, u2, u3, u4, u5, u6) => va_P (dC, dI) vwCl [(h0, .inr (5, [.int u0, .int u1, .int u2, .ref h0_inverses, .ref h0_roots, .int u3, .ref h0_points, .int u4, .ref h0_ahead, .int t_curves, .ref h0_ps, .ref h0_as, .ref h0_bs, .ref h0_from, .ref h0_kernelPoint, .ref h0_kernelOrder, .ref h0_marked, .ref h0_seen])), (h0_inverses, .inl (k_t_inverses, 10008, .inl u5)), (h0_roots, .inl (k_t_roots, 10008, .inl u6)), (h0_ps, .inl (k_t_ps, 24, .inl t_ps)), (h0_as, .inl (k_t_as, 24, .inl t_as)), (h0_bs, .inl (k_t_bs, 24, .inl t_bs))] t.heap ∧ va_K (dC, dI) vwCl [(k_t_inverses, .int), (k_t_roots, .int), (k_t_ps, .int), (k_t_as, .int), (k_t_bs, .int)] t ∧ va_D (va_A [(h0, .inr (5, [.int t_p, .int t_a, .int t_b, .ref h0_inverses, .ref h0_roots, .int t_rooted, .ref h0_points, .int t_pointMany, .ref h0_ahead, .int t_curves, .ref h0_ps, .ref h0_as, .ref h0_bs, .ref h0_from, .ref h0_kernelPoint, .ref h0_kernelOrder, .ref h0_marked, .ref h0_seen])), (h0_inverses, .inl (k_t_inverses, 10008, .inl t_inverses)), (h0_roots, .inl (k_t_roots, 10008, .inl t_roots)), (h0_ps, .inl (k_t_ps, 24, .inl t_ps)), (h0_as, .inl (k_t_as, 24, .inl t_as)), (h0_bs, .inl (k_t_bs, 24, .inl t_bs))] sz) [(h0, .inr (5, [.int u0, .int u1, .int u2, .ref h0_inverses, .ref h0_roots, .int u3, .ref h0_points, .int u4, .ref h0_ahead, .int t_curves, .ref h0_ps, .ref h0_as, .ref h0_bs, .ref h0_from, .ref h0_kernelPoint, .ref h0_kernelOrder, .ref h0_marked, .ref h0_seen])), (h0_inverses, .inl (k_t_inverses, 10008, .inl u5)), (h0_roots, .inl (k_t_roots, 10008, .inl u6)), (h0_ps, .inl (k_t_ps, 24, .inl t_ps)), (h0_as, .inl (k_t_as, 24, .inl t_as)), (h0_bs, .inl (k_t_bs, 24, .inl t_bs))]) (va_A [(h0, .inr (5, [.int t_p, .int t_a, .int t_b, .ref h0_inverses, .ref h0_roots, .int t_rooted, .ref h0_points, .int t_pointMany, .ref h0_ahead, .int t_curves, .ref h0_ps, .ref h0_as, .ref h0_bs, .ref h0_from, .ref h0_kernelPoint, .ref h0_kernelOrder, .ref h0_marked, .ref h0_seen])), (h0_inverses, .inl (k_t_inverses, 10008, .inl t_inverses)), (h0_roots, .inl (k_t_roots, 10008, .inl t_roots)), (h0_ps, .inl (k_t_ps, 24, .inl t_ps)), (h0_as, .inl (k_t_as, 24, .inl t_as)), (h0_bs, .inl (k_t_bs, 24, .inl t_bs))] sz)) 0 0 (va_A [(h0, .inr (5, [.int t_p, .int t_a, .int t_b, .ref h0_inverses, .ref h0_roots, .int t_rooted, .ref h0_points, .int t_pointMany, .ref h0_ahead, .int t_curves, .ref h0_ps, .ref h0_as, .ref h0_bs, .ref h0_from, .ref h0_kernelPoint, .ref h0_kernelOrder, .ref h0_marked, .ref h0_seen])), (h0_inverses, .inl (k_t_inverses, 10008, .inl t_inverses)), (h0_roots, .inl (k_t_roots, 10008, .inl t_roots)), (h0_ps, .inl (k_t_ps, 24, .inl t_ps)), (h0_as, .inl (k_t_as, 24, .inl t_as)), (h0_bs, .inl (k_t_bs, 24, .inl t_bs))] sz) := by
  refine Met.ofW (cc := cX6_bound) (maxL := 3) (ret := (some .int)) (by decide) rfl ?_
  intro p e s m args below meth c s₁ B hml hv
  obtain ⟨rfl, hsz, hP, hK, hN, hD0⟩ := hv
  have hx := B.exec
  have hb := B.bytes
  have hr := B.returns
  have hts := atoms_spec (ws := wsX6_bound) B.pre
  have hown : s.vm.findClass RX6 = some m.cls := findClass_of_methodNamed B.named
  have hlocks := B.notSynchronized
  subst hsz
  have hD := hD0.self (sz := s.heap.size)
  generalize hAe : va_A [(h0, .inr (5, [.int t_p, .int t_a, .int t_b, .ref h0_inverses, .ref h0_roots, .int t_rooted, .ref h0_points, .int t_pointMany, .ref h0_ahead, .int t_curves, .ref h0_ps, .ref h0_as, .ref h0_bs, .ref h0_from, .ref h0_kernelPoint, .ref h0_kernelOrder, .ref h0_marked, .ref h0_seen])), (h0_inverses, .inl (k_t_inverses, 10008, .inl t_inverses)), (h0_roots, .inl (k_t_roots, 10008, .inl t_roots)), (h0_ps, .inl (k_t_ps, 24, .inl t_ps)), (h0_as, .inl (k_t_as, 24, .inl t_as)), (h0_bs, .inl (k_t_bs, 24, .inl t_bs))] s.heap.size = A at hD ⊢
  have hA0 : ∀ q : Nat, s.heap.size ≤ q → A q := fun q h => by rw [← hAe]; exact Or.inr h
  have hS : va_S A s.heap s.heap [] := va_S.rf
  have hP : va_P (dC, dI) vwCl [(h0, .inr (5, [.int t_p, .int t_a, .int t_b, .ref h0_inverses, .ref h0_roots, .int t_rooted, .ref h0_points, .int t_pointMany, .ref h0_ahead, .int t_curves, .ref h0_ps, .ref h0_as, .ref h0_bs, .ref h0_from, .ref h0_kernelPoint, .ref h0_kernelOrder, .ref h0_marked, .ref h0_seen])), (h0_inverses, .inl (k_t_inverses, 10008, .inl t_inverses)), (h0_roots, .inl (k_t_roots, 10008, .inl t_roots)), (h0_ps, .inl (k_t_ps, 24, .inl t_ps)), (h0_as, .inl (k_t_as, 24, .inl t_as)), (h0_bs, .inl (k_t_bs, 24, .inl t_bs))] s.heap := hP
  have hl := lv_entry ([.ref h0, .int a0, .int a1]) (n := 3) (Nat.le_of_ble_eq_true rfl)
  rw [lg_entry_eq]
  generalize (lg_sl ([.ref h0, .int a0, .int a1]) ++ List.replicate (3 - (lg_sl ([.ref h0, .int a0, .int a1])).length) Slot.unset).toArray = ls at hl ⊢
  have hl : lv_has ls 3 [(0, .ref h0), (1, .int a0), (2, .int a1)] := hl
  dsimp only [mX6_bound] at h
  refine lv_aload_n hx hb dX6_bound_0 rfl (lv_at hl 0 rfl) ?_
  refine lv_iload_n hx hb dX6_bound_1 rfl (lv_at hl 1 rfl) ?_
  obtain ⟨r1, hr1, h⟩ := Option.bind_eq_some_iff.mp h
  have hPc := hP.sub (ws' := [(h0, .inr (5, [.int t_p, .int t_a, .int t_b, .ref h0_inverses, .ref h0_roots, .int t_rooted, .ref h0_points, .int t_pointMany, .ref h0_ahead, .int t_curves, .ref h0_ps, .ref h0_as, .ref h0_bs, .ref h0_from, .ref h0_kernelPoint, .ref h0_kernelOrder, .ref h0_marked, .ref h0_seen])), (h0_inverses, .inl (k_t_inverses, 10008, .inl t_inverses)), (h0_roots, .inl (k_t_roots, 10008, .inl t_roots)), (h0_ps, .inl (k_t_ps, 24, .inl t_ps)), (h0_as, .inl (k_t_as, 24, .inl t_as)), (h0_bs, .inl (k_t_bs, 24, .inl t_bs))]) [0, 1, 2, 3, 4, 5] rfl
  have hDc := hD.sub (ws' := [(h0, .inr (5, [.int t_p, .int t_a, .int t_b, .ref h0_inverses, .ref h0_roots, .int t_rooted, .ref h0_points, .int t_pointMany, .ref h0_ahead, .int t_curves, .ref h0_ps, .ref h0_as, .ref h0_bs, .ref h0_from, .ref h0_kernelPoint, .ref h0_kernelOrder, .ref h0_marked, .ref h0_seen])), (h0_inverses, .inl (k_t_inverses, 10008, .inl t_inverses)), (h0_roots, .inl (k_t_roots, 10008, .inl t_roots)), (h0_ps, .inl (k_t_ps, 24, .inl t_ps)), (h0_as, .inl (k_t_as, 24, .inl t_as)), (h0_bs, .inl (k_t_bs, 24, .inl t_bs))]) [0, 1, 2, 3, 4, 5] (by decide) rfl
  have hKc := hK.sub (tys' := [(k_t_inverses, .int), (k_t_roots, .int), (k_t_ps, .int), (k_t_as, .int), (k_t_bs, .int)]) [0, 1, 2, 3, 4] rfl
  have hFc := va_free (wc := [(h0, .inr (5, [.int t_p, .int t_a, .int t_b, .ref h0_inverses, .ref h0_roots, .int t_rooted, .ref h0_points, .int t_pointMany, .ref h0_ahead, .int t_curves, .ref h0_ps, .ref h0_as, .ref h0_bs, .ref h0_from, .ref h0_kernelPoint, .ref h0_kernelOrder, .ref h0_marked, .ref h0_seen])), (h0_inverses, .inl (k_t_inverses, 10008, .inl t_inverses)), (h0_roots, .inl (k_t_roots, 10008, .inl t_roots)), (h0_ps, .inl (k_t_ps, 24, .inl t_ps)), (h0_as, .inl (k_t_as, 24, .inl t_as)), (h0_bs, .inl (k_t_bs, 24, .inl t_bs))]) hD hS hA0 [0, 1, 2, 3, 4, 5] rfl
  refine va_calli (va_runV (As := [.int a0]) (rest := []) ⟨hx, hb, hml, hown, hts⟩ (ctX6_has l N dC dI _ h0 h0_inverses h0_roots h0_ps h0_as h0_bs h0_points h0_ahead h0_from h0_kernelPoint h0_kernelOrder h0_marked h0_seen k_t_inverses k_t_roots k_t_ps k_t_as k_t_bs t_p t_a t_b t_rooted t_pointMany t_curves t_inverses t_roots t_ps t_as t_bs a0 r1 hr1) (cwV 1 hts gX6_bound_X6_has rfl rfl rfl (by decide +kernel) ⟨Nat.le_of_ble_eq_true rfl, Nat.le_of_ble_eq_true rfl⟩) ⟨fun a U g mk q => by obtain ⟨q0, q1, qP, qK, qN, qD⟩ := q; exact ⟨q0, q1, qP, va_K.moved (u := U) (U := U.calling g mk a) (Vm.Alike.refl U.vm) qK, nw_same (u := U) (U := U.calling g mk a) rfl qN, qD⟩, va_recv hKc hPc (ci := 5) (q0 := 0) rfl rfl, fun U hU hW => ⟨rfl, by rw [hU], by rw [hU]; exact hPc, va_K.moved hW.alike hKc, nw_warm hW hN, hDc.weaken (fun _ _ _ _ => trivial)⟩⟩ rfl rfl hl.1 rfl (lv_room (Nat.le_of_ble_eq_true rfl)) dX6_bound_2 ⟨Nat.le_of_ble_eq_true rfl, Nat.le_of_ble_eq_true rfl⟩) hS (fun q _ h => hFc q h) hFc (fun rz u t H1 locs ht hvm hw hB1 hz1 hk1 hS => ?_)
  obtain ⟨u2, u3, u4, u5, u6, f7, f8⟩ := u
  obtain ⟨hP1, hK1, hD1⟩ := hB1
  rw [ht] at hP1
  have hK1 := va_K.moved hvm.symm hK1
  obtain ⟨r9, rfl⟩ : ∃ z, z = rz := ⟨_, rfl⟩
  subst hw
  try dsimp only at h
  obtain ⟨hP, hD⟩ := va_join (wr := []) (w1 := [(h0, .inr (5, [.int u2, .int u3, .int u4, .ref h0_inverses, .ref h0_roots, .int u5, .ref h0_points, .int u6, .ref h0_ahead, .int t_curves, .ref h0_ps, .ref h0_as, .ref h0_bs, .ref h0_from, .ref h0_kernelPoint, .ref h0_kernelOrder, .ref h0_marked, .ref h0_seen])), (h0_inverses, .inl (k_t_inverses, 10008, .inl f7)), (h0_roots, .inl (k_t_roots, 10008, .inl f8)), (h0_ps, .inl (k_t_ps, 24, .inl t_ps)), (h0_as, .inl (k_t_as, 24, .inl t_as)), (h0_bs, .inl (k_t_bs, 24, .inl t_bs))]) hP hD [0, 1, 2, 3, 4, 5] [] rfl rfl (by decide) (by decide) hk1 hFc hP1 hD1
  generalize H1 = H at hP hS ⊢
  have hP := hP.sub (ws' := [(h0, .inr (5, [.int u2, .int u3, .int u4, .ref h0_inverses, .ref h0_roots, .int u5, .ref h0_points, .int u6, .ref h0_ahead, .int t_curves, .ref h0_ps, .ref h0_as, .ref h0_bs, .ref h0_from, .ref h0_kernelPoint, .ref h0_kernelOrder, .ref h0_marked, .ref h0_seen])), (h0_inverses, .inl (k_t_inverses, 10008, .inl f7)), (h0_roots, .inl (k_t_roots, 10008, .inl f8)), (h0_ps, .inl (k_t_ps, 24, .inl t_ps)), (h0_as, .inl (k_t_as, 24, .inl t_as)), (h0_bs, .inl (k_t_bs, 24, .inl t_bs))]) [0, 1, 2, 3, 4, 5] rfl
  have hD := hD.sub (ws' := [(h0, .inr (5, [.int u2, .int u3, .int u4, .ref h0_inverses, .ref h0_roots, .int u5, .ref h0_points, .int u6, .ref h0_ahead, .int t_curves, .ref h0_ps, .ref h0_as, .ref h0_bs, .ref h0_from, .ref h0_kernelPoint, .ref h0_kernelOrder, .ref h0_marked, .ref h0_seen])), (h0_inverses, .inl (k_t_inverses, 10008, .inl f7)), (h0_roots, .inl (k_t_roots, 10008, .inl f8)), (h0_ps, .inl (k_t_ps, 24, .inl t_ps)), (h0_as, .inl (k_t_as, 24, .inl t_as)), (h0_bs, .inl (k_t_bs, 24, .inl t_bs))]) [0, 1, 2, 3, 4, 5] (by decide) rfl
  refine lv_if_eq (tgt := 18) hx hb dX6_bound_5 (by decide) (fun c10 => ?_) (fun c10 => ?_)
  · replace h := (if_pos c10).symm.trans h
    refine lv_bipush (v := (-2)) hx hb dX6_bound_18 (by decide) ?_
    have hv : ((-2), u2, u3, u4, u5, u6, f7, f8) = rr := Option.some.inj h
    have hP9 := hP.sub (ws' := [(h0, .inr (5, [.int u2, .int u3, .int u4, .ref h0_inverses, .ref h0_roots, .int u5, .ref h0_points, .int u6, .ref h0_ahead, .int t_curves, .ref h0_ps, .ref h0_as, .ref h0_bs, .ref h0_from, .ref h0_kernelPoint, .ref h0_kernelOrder, .ref h0_marked, .ref h0_seen])), (h0_inverses, .inl (k_t_inverses, 10008, .inl f7)), (h0_roots, .inl (k_t_roots, 10008, .inl f8)), (h0_ps, .inl (k_t_ps, 24, .inl t_ps)), (h0_as, .inl (k_t_as, 24, .inl t_as)), (h0_bs, .inl (k_t_bs, 24, .inl t_bs))]) [0, 1, 2, 3, 4, 5] rfl
    have hD9 := hD.sub (ws' := [(h0, .inr (5, [.int u2, .int u3, .int u4, .ref h0_inverses, .ref h0_roots, .int u5, .ref h0_points, .int u6, .ref h0_ahead, .int t_curves, .ref h0_ps, .ref h0_as, .ref h0_bs, .ref h0_from, .ref h0_kernelPoint, .ref h0_kernelOrder, .ref h0_marked, .ref h0_seen])), (h0_inverses, .inl (k_t_inverses, 10008, .inl f7)), (h0_roots, .inl (k_t_roots, 10008, .inl f8)), (h0_ps, .inl (k_t_ps, 24, .inl t_ps)), (h0_as, .inl (k_t_as, 24, .inl t_as)), (h0_bs, .inl (k_t_bs, 24, .inl t_bs))]) [0, 1, 2, 3, 4, 5] (by decide) rfl
    have hK9 := hK.sub (tys' := [(k_t_inverses, .int), (k_t_roots, .int), (k_t_ps, .int), (k_t_as, .int), (k_t_bs, .int)]) [0, 1, 2, 3, 4] rfl
    exact W.iret (v := (-2)) hx hb hr (fun t ht hW => ⟨⟨(-2), (u2, u3, u4, u5, u6, f7, f8), rfl, hv, by rw [ht]; exact hP9, va_K.moved hW.alike hK9, hD9⟩, hS.F ht⟩) hS.2.2 dX6_bound_20
  · replace h := (if_neg c10).symm.trans h
    refine lv_iload_n hx hb dX6_bound_8 rfl (lv_at hl 2 rfl) ?_
    refine lv_i2l hx hb dX6_bound_9 rfl ?_
    refine lv_lconst (v := 0) hx hb dX6_bound_10 (by decide) ?_
    refine lv_lconst (v := 1) hx hb dX6_bound_11 (by decide) ?_
    obtain ⟨r11, hr11, h⟩ := Option.bind_eq_some_iff.mp h
    refine vp_callSi (W.runS (As := [.long a1.toInt64, .long 0, .long 1]) (rest := []) ⟨hx, hb, hml, hown, hts⟩ (ctX6_in l N  a1.toInt64 0 1 r11 hr11) (va_cwS 3 hts gX6_bound_X6_in rfl rfl rfl (by decide +kernel) ⟨Nat.le_of_ble_eq_true rfl, Nat.le_of_ble_eq_true rfl⟩) preEq rfl rfl hl.1 rfl (lv_room (Nat.le_of_ble_eq_true rfl)) dX6_bound_12 ⟨Nat.le_of_ble_eq_true rfl, Nat.le_of_ble_eq_true rfl⟩) (fun q9 eq9 => ?_)
    subst q9
    refine lv_if_ne (tgt := 21) hx hb dX6_bound_15 (by decide) (fun c12 => ?_) (fun c12 => ?_)
    · replace h := (if_neg c12).symm.trans h
      refine lv_iload_n hx hb dX6_bound_21 rfl (lv_at hl 2 rfl) ?_
      refine lv_if_ne (tgt := 32) hx hb dX6_bound_22 (by decide) (fun c13 => ?_) (fun c13 => ?_)
      · replace h := (if_neg c13).symm.trans h
        refine lv_iconst (v := 2) hx hb dX6_bound_32 (by decide) ?_
        refine lv_aload_n hx hb dX6_bound_33 rfl (lv_at hl 0 rfl) ?_
        refine va_get (D := (dC, dI)) (ci := 5) (v := .int u2) (C := RX6) (T := TX6) (N := 18) hx hb hts (by decide +kernel) hown hK hP 0 rfl rfl 0 (by decide) (hts (.fieldLink RX6 47 "PointRingsModel" "p" "I") (by decide +kernel)) (fun _ h9 => h9) rfl dX6_bound_34 ?_
        refine lv_imul hx hb dX6_bound_37 ?_
        refine lv_iconst (v := 2) hx hb dX6_bound_38 (by decide) ?_
        refine lv_iadd hx hb dX6_bound_39 ?_
        refine lv_aload_n hx hb dX6_bound_40 rfl (lv_at hl 0 rfl) ?_
        obtain ⟨r14, hr14, h⟩ := Option.bind_eq_some_iff.mp h
        have hPc := hP.sub (ws' := [(h0, .inr (5, [.int u2, .int u3, .int u4, .ref h0_inverses, .ref h0_roots, .int u5, .ref h0_points, .int u6, .ref h0_ahead, .int t_curves, .ref h0_ps, .ref h0_as, .ref h0_bs, .ref h0_from, .ref h0_kernelPoint, .ref h0_kernelOrder, .ref h0_marked, .ref h0_seen]))]) [0] rfl
        have hKc := hK.sub (tys' := []) [] rfl
        refine vp_callSi (W.runV (As := []) (rest := [.int ((2 * u2) + 2)]) ⟨hx, hb, hml, hown, hts⟩ (ctX6_least l N dC dI  h0 h0_inverses h0_roots h0_points h0_ahead h0_ps h0_as h0_bs h0_from h0_kernelPoint h0_kernelOrder h0_marked h0_seen u2 u3 u4 u5 u6 t_curves r14 hr14) (cwV 0 hts gX6_bound_X6_least rfl rfl rfl (by decide +kernel) ⟨Nat.le_of_ble_eq_true rfl, Nat.le_of_ble_eq_true rfl⟩) ⟨fun a U g mk q => by obtain ⟨q0, qP, qK, qN⟩ := q; exact ⟨q0, qP, va_K.moved (u := U) (U := U.calling g mk a) (Vm.Alike.refl U.vm) qK, nw_same (u := U) (U := U.calling g mk a) rfl qN⟩, va_recv hKc hPc (ci := 5) (q0 := 0) rfl rfl, fun U hU hW => ⟨rfl, by rw [hU]; exact hPc, va_K.moved hW.alike hKc, nw_warm hW hN⟩⟩ rfl rfl hl.1 rfl (lv_room (Nat.le_of_ble_eq_true rfl)) dX6_bound_41 ⟨Nat.le_of_ble_eq_true rfl, Nat.le_of_ble_eq_true rfl⟩) (fun q9 eq9 => ?_)
        subst q9
        refine lv_isub hx hb dX6_bound_44 ?_
        have hv : (((2 * u2) + 2) - r14, u2, u3, u4, u5, u6, f7, f8) = rr := Option.some.inj h
        have hP9 := hP.sub (ws' := [(h0, .inr (5, [.int u2, .int u3, .int u4, .ref h0_inverses, .ref h0_roots, .int u5, .ref h0_points, .int u6, .ref h0_ahead, .int t_curves, .ref h0_ps, .ref h0_as, .ref h0_bs, .ref h0_from, .ref h0_kernelPoint, .ref h0_kernelOrder, .ref h0_marked, .ref h0_seen])), (h0_inverses, .inl (k_t_inverses, 10008, .inl f7)), (h0_roots, .inl (k_t_roots, 10008, .inl f8)), (h0_ps, .inl (k_t_ps, 24, .inl t_ps)), (h0_as, .inl (k_t_as, 24, .inl t_as)), (h0_bs, .inl (k_t_bs, 24, .inl t_bs))]) [0, 1, 2, 3, 4, 5] rfl
        have hD9 := hD.sub (ws' := [(h0, .inr (5, [.int u2, .int u3, .int u4, .ref h0_inverses, .ref h0_roots, .int u5, .ref h0_points, .int u6, .ref h0_ahead, .int t_curves, .ref h0_ps, .ref h0_as, .ref h0_bs, .ref h0_from, .ref h0_kernelPoint, .ref h0_kernelOrder, .ref h0_marked, .ref h0_seen])), (h0_inverses, .inl (k_t_inverses, 10008, .inl f7)), (h0_roots, .inl (k_t_roots, 10008, .inl f8)), (h0_ps, .inl (k_t_ps, 24, .inl t_ps)), (h0_as, .inl (k_t_as, 24, .inl t_as)), (h0_bs, .inl (k_t_bs, 24, .inl t_bs))]) [0, 1, 2, 3, 4, 5] (by decide) rfl
        have hK9 := hK.sub (tys' := [(k_t_inverses, .int), (k_t_roots, .int), (k_t_ps, .int), (k_t_as, .int), (k_t_bs, .int)]) [0, 1, 2, 3, 4] rfl
        exact W.iret (v := (((2 * u2) + 2) - r14)) hx hb hr (fun t ht hW => ⟨⟨((2 * u2) + 2) - r14, (u2, u3, u4, u5, u6, f7, f8), rfl, hv, by rw [ht]; exact hP9, va_K.moved hW.alike hK9, hD9⟩, hS.F ht⟩) hS.2.2 dX6_bound_45
      · replace h := (if_pos c13).symm.trans h
        refine lv_aload_n hx hb dX6_bound_25 rfl (lv_at hl 0 rfl) ?_
        obtain ⟨r15, hr15, h⟩ := Option.bind_eq_some_iff.mp h
        have hPc := hP.sub (ws' := [(h0, .inr (5, [.int u2, .int u3, .int u4, .ref h0_inverses, .ref h0_roots, .int u5, .ref h0_points, .int u6, .ref h0_ahead, .int t_curves, .ref h0_ps, .ref h0_as, .ref h0_bs, .ref h0_from, .ref h0_kernelPoint, .ref h0_kernelOrder, .ref h0_marked, .ref h0_seen]))]) [0] rfl
        have hKc := hK.sub (tys' := []) [] rfl
        refine vp_callSi (W.runV (As := []) (rest := []) ⟨hx, hb, hml, hown, hts⟩ (ctX6_least l N dC dI  h0 h0_inverses h0_roots h0_points h0_ahead h0_ps h0_as h0_bs h0_from h0_kernelPoint h0_kernelOrder h0_marked h0_seen u2 u3 u4 u5 u6 t_curves r15 hr15) (cwV 0 hts gX6_bound_X6_least rfl rfl rfl (by decide +kernel) ⟨Nat.le_of_ble_eq_true rfl, Nat.le_of_ble_eq_true rfl⟩) ⟨fun a U g mk q => by obtain ⟨q0, qP, qK, qN⟩ := q; exact ⟨q0, qP, va_K.moved (u := U) (U := U.calling g mk a) (Vm.Alike.refl U.vm) qK, nw_same (u := U) (U := U.calling g mk a) rfl qN⟩, va_recv hKc hPc (ci := 5) (q0 := 0) rfl rfl, fun U hU hW => ⟨rfl, by rw [hU]; exact hPc, va_K.moved hW.alike hKc, nw_warm hW hN⟩⟩ rfl rfl hl.1 rfl (lv_room (Nat.le_of_ble_eq_true rfl)) dX6_bound_26 ⟨Nat.le_of_ble_eq_true rfl, Nat.le_of_ble_eq_true rfl⟩) (fun q9 eq9 => ?_)
        subst q9
        refine lv_goto (tgt := 45) hx hb dX6_bound_29 (by decide) ?_
        have hv : (r15, u2, u3, u4, u5, u6, f7, f8) = rr := Option.some.inj h
        have hP9 := hP.sub (ws' := [(h0, .inr (5, [.int u2, .int u3, .int u4, .ref h0_inverses, .ref h0_roots, .int u5, .ref h0_points, .int u6, .ref h0_ahead, .int t_curves, .ref h0_ps, .ref h0_as, .ref h0_bs, .ref h0_from, .ref h0_kernelPoint, .ref h0_kernelOrder, .ref h0_marked, .ref h0_seen])), (h0_inverses, .inl (k_t_inverses, 10008, .inl f7)), (h0_roots, .inl (k_t_roots, 10008, .inl f8)), (h0_ps, .inl (k_t_ps, 24, .inl t_ps)), (h0_as, .inl (k_t_as, 24, .inl t_as)), (h0_bs, .inl (k_t_bs, 24, .inl t_bs))]) [0, 1, 2, 3, 4, 5] rfl
        have hD9 := hD.sub (ws' := [(h0, .inr (5, [.int u2, .int u3, .int u4, .ref h0_inverses, .ref h0_roots, .int u5, .ref h0_points, .int u6, .ref h0_ahead, .int t_curves, .ref h0_ps, .ref h0_as, .ref h0_bs, .ref h0_from, .ref h0_kernelPoint, .ref h0_kernelOrder, .ref h0_marked, .ref h0_seen])), (h0_inverses, .inl (k_t_inverses, 10008, .inl f7)), (h0_roots, .inl (k_t_roots, 10008, .inl f8)), (h0_ps, .inl (k_t_ps, 24, .inl t_ps)), (h0_as, .inl (k_t_as, 24, .inl t_as)), (h0_bs, .inl (k_t_bs, 24, .inl t_bs))]) [0, 1, 2, 3, 4, 5] (by decide) rfl
        have hK9 := hK.sub (tys' := [(k_t_inverses, .int), (k_t_roots, .int), (k_t_ps, .int), (k_t_as, .int), (k_t_bs, .int)]) [0, 1, 2, 3, 4] rfl
        exact W.iret (v := r15) hx hb hr (fun t ht hW => ⟨⟨r15, (u2, u3, u4, u5, u6, f7, f8), rfl, hv, by rw [ht]; exact hP9, va_K.moved hW.alike hK9, hD9⟩, hS.F ht⟩) hS.2.2 dX6_bound_45
    · replace h := (if_pos c12).symm.trans h
      refine lv_bipush (v := (-2)) hx hb dX6_bound_18 (by decide) ?_
      have hv : ((-2), u2, u3, u4, u5, u6, f7, f8) = rr := Option.some.inj h
      have hP9 := hP.sub (ws' := [(h0, .inr (5, [.int u2, .int u3, .int u4, .ref h0_inverses, .ref h0_roots, .int u5, .ref h0_points, .int u6, .ref h0_ahead, .int t_curves, .ref h0_ps, .ref h0_as, .ref h0_bs, .ref h0_from, .ref h0_kernelPoint, .ref h0_kernelOrder, .ref h0_marked, .ref h0_seen])), (h0_inverses, .inl (k_t_inverses, 10008, .inl f7)), (h0_roots, .inl (k_t_roots, 10008, .inl f8)), (h0_ps, .inl (k_t_ps, 24, .inl t_ps)), (h0_as, .inl (k_t_as, 24, .inl t_as)), (h0_bs, .inl (k_t_bs, 24, .inl t_bs))]) [0, 1, 2, 3, 4, 5] rfl
      have hD9 := hD.sub (ws' := [(h0, .inr (5, [.int u2, .int u3, .int u4, .ref h0_inverses, .ref h0_roots, .int u5, .ref h0_points, .int u6, .ref h0_ahead, .int t_curves, .ref h0_ps, .ref h0_as, .ref h0_bs, .ref h0_from, .ref h0_kernelPoint, .ref h0_kernelOrder, .ref h0_marked, .ref h0_seen])), (h0_inverses, .inl (k_t_inverses, 10008, .inl f7)), (h0_roots, .inl (k_t_roots, 10008, .inl f8)), (h0_ps, .inl (k_t_ps, 24, .inl t_ps)), (h0_as, .inl (k_t_as, 24, .inl t_as)), (h0_bs, .inl (k_t_bs, 24, .inl t_bs))]) [0, 1, 2, 3, 4, 5] (by decide) rfl
      have hK9 := hK.sub (tys' := [(k_t_inverses, .int), (k_t_roots, .int), (k_t_ps, .int), (k_t_as, .int), (k_t_bs, .int)]) [0, 1, 2, 3, 4] rfl
      exact W.iret (v := (-2)) hx hb hr (fun t ht hW => ⟨⟨(-2), (u2, u3, u4, u5, u6, f7, f8), rfl, hv, by rw [ht]; exact hP9, va_K.moved hW.alike hK9, hD9⟩, hS.F ht⟩) hS.2.2 dX6_bound_20
def mX6_proves (N : Nat) (t_p : Int32) (t_a : Int32) (t_b : Int32) (t_pointMany : Int32) (t_inverses : Nat → Int32) (t_roots : Nat → Int32) (t_points : Nat → Int32) (t_ahead : Nat → Int32) (a0 : Int32) : Option (Int32 × Int32 × (Nat → Int32) × (Nat → Int32)) := (mX6_orderOf N t_p t_a t_b t_pointMany t_inverses t_roots t_points t_ahead a0).bind (fun r1 => match r1 with | (r5, u2, f3, f4) => (mX6_least N t_p).bind (fun r6 => mi_let (((2 * t_p) + 2) - r6) (fun v7 => if r5 = 0 then none else mi_let (v7 / r5) (fun v9 => if r5 = 0 then none else mi_let ((r6 - 1) / r5) (fun v11 => if (v9 - v11) = 1 then some (1, u2, f3, f4) else some (0, u2, f3, f4))))))
abbrev rmX6_proves : Room := { frames := 4, cells := 0, slots := 0, locals := 102 }
set_option maxHeartbeats 4000000 in
set_option maxRecDepth 100000 in
theorem ctX6_proves (l : Launch) (N : Nat) (dC : Nat → ClassId) (dI : Nat → Nat → Nat) (sz : Nat) (h0 : Nat) (h0_inverses : Nat) (h0_roots : Nat) (h0_points : Nat) (h0_ahead : Nat) (h0_ps : Nat) (h0_as : Nat) (h0_bs : Nat) (h0_from : Nat) (h0_kernelPoint : Nat) (h0_kernelOrder : Nat) (h0_marked : Nat) (h0_seen : Nat) (k_t_inverses : ClassId) (k_t_roots : ClassId) (k_t_points : ClassId) (k_t_ahead : ClassId) (t_p : Int32) (t_a : Int32) (t_b : Int32) (t_rooted : Int32) (t_pointMany : Int32) (t_curves : Int32) (t_inverses : Nat → Int32) (t_roots : Nat → Int32) (t_points : Nat → Int32) (t_ahead : Nat → Int32) (a0 : Int32) (rr : Int32 × Int32 × (Nat → Int32) × (Nat → Int32)) (h : mX6_proves N t_p t_a t_b t_pointMany t_inverses t_roots t_points t_ahead a0 = some rr) : Met l yX6_proves wsX6_proves rmX6_proves (va_Pc [.ref h0, .int a0] (fun U => U.heap.size = sz ∧ va_P (dC, dI) vwCl [(h0, .inr (5, [.int t_p, .int t_a, .int t_b, .ref h0_inverses, .ref h0_roots, .int t_rooted, .ref h0_points, .int t_pointMany, .ref h0_ahead, .int t_curves, .ref h0_ps, .ref h0_as, .ref h0_bs, .ref h0_from, .ref h0_kernelPoint, .ref h0_kernelOrder, .ref h0_marked, .ref h0_seen])), (h0_inverses, .inl (k_t_inverses, 10008, .inl t_inverses)), (h0_roots, .inl (k_t_roots, 10008, .inl t_roots)), (h0_points, .inl (k_t_points, 10300, .inl t_points)), (h0_ahead, .inl (k_t_ahead, 10008, .inl t_ahead))] U.heap ∧ va_K (dC, dI) vwCl [(k_t_inverses, .int), (k_t_roots, .int), (k_t_points, .int), (k_t_ahead, .int)] U ∧ nw_all U ∧ va_D (fun _ => True) [(h0, .inr (5, [.int t_p, .int t_a, .int t_b, .ref h0_inverses, .ref h0_roots, .int t_rooted, .ref h0_points, .int t_pointMany, .ref h0_ahead, .int t_curves, .ref h0_ps, .ref h0_as, .ref h0_bs, .ref h0_from, .ref h0_kernelPoint, .ref h0_kernelOrder, .ref h0_marked, .ref h0_seen])), (h0_inverses, .inl (k_t_inverses, 10008, .inl t_inverses)), (h0_roots, .inl (k_t_roots, 10008, .inl t_roots)), (h0_points, .inl (k_t_points, 10300, .inl t_points)), (h0_ahead, .inl (k_t_ahead, 10008, .inl t_ahead))])) (va_Qi (fun (r : Int32) (u : Int32 × (Nat → Int32) × (Nat → Int32)) => (r, u) = rr) (fun (u : Int32 × (Nat → Int32) × (Nat → Int32)) t => match u with | (u0, u1, u2) => va_P (dC, dI) vwCl [(h0, .inr (5, [.int t_p, .int t_a, .int t_b, .ref h0_inverses, .ref h0_roots, .int t_rooted, .ref h0_points, .int u0, .ref h0_ahead, .int t_curves, .ref h0_ps, .ref h0_as, .ref h0_bs, .ref h0_from, .ref h0_kernelPoint, .ref h0_kernelOrder, .ref h0_marked, .ref h0_seen])), (h0_inverses, .inl (k_t_inverses, 10008, .inl t_inverses)), (h0_roots, .inl (k_t_roots, 10008, .inl t_roots)), (h0_points, .inl (k_t_points, 10300, .inl u1)), (h0_ahead, .inl (k_t_ahead, 10008, .inl u2))] t.heap ∧ va_K (dC, dI) vwCl [(k_t_inverses, .int), (k_t_roots, .int), (k_t_points, .int), (k_t_ahead, .int)] t ∧ va_D (va_A [(h0, .inr (5, [.int t_p, .int t_a, .int t_b, .ref h0_inverses, .ref h0_roots, .int t_rooted, .ref h0_points, .int t_pointMany, .ref h0_ahead, .int t_curves, .ref h0_ps, .ref h0_as, .ref h0_bs, .ref h0_from, .ref h0_kernelPoint, .ref h0_kernelOrder, .ref h0_marked, .ref h0_seen])), (h0_inverses, .inl (k_t_inverses, 10008, .inl t_inverses)), (h0_roots, .inl (k_t_roots, 10008, .inl t_roots)), (h0_points, .inl (k_t_points, 10300, .inl t_points)), (h0_ahead, .inl (k_t_ahead, 10008, .inl t_ahead))] sz) [(h0, .inr (5, [.int t_p, .int t_a, .int t_b, .ref h0_inverses, .ref h0_roots, .int t_rooted, .ref h0_points, .int u0, .ref h0_ahead, .int t_curves, .ref h0_ps, .ref h0_as, .ref h0_bs, .ref h0_from, .ref h0_kernelPoint, .ref h0_kernelOrder, .ref h0_marked, .ref h0_seen])), (h0_inverses, .inl (k_t_inverses, 10008, .inl t_inverses)), (h0_roots, .inl (k_t_roots, 10008, .inl t_roots)), (h0_points, .inl (k_t_points, 10300, .inl u1)), (h0_ahead, .inl (k_t_ahead, 10008, .inl u2))]) (va_A [(h0, .inr (5, [.int t_p, .int t_a, .int t_b, .ref h0_inverses, .ref h0_roots, .int t_rooted, .ref h0_points, .int t_pointMany, .ref h0_ahead, .int t_curves, .ref h0_ps, .ref h0_as, .ref h0_bs, .ref h0_from, .ref h0_kernelPoint, .ref h0_kernelOrder, .ref h0_marked, .ref h0_seen])), (h0_inverses, .inl (k_t_inverses, 10008, .inl t_inverses)), (h0_roots, .inl (k_t_roots, 10008, .inl t_roots)), (h0_points, .inl (k_t_points, 10300, .inl t_points)), (h0_ahead, .inl (k_t_ahead, 10008, .inl t_ahead))] sz)) 0 0 (va_A [(h0, .inr (5, [.int t_p, .int t_a, .int t_b, .ref h0_inverses, .ref h0_roots, .int t_rooted, .ref h0_points, .int t_pointMany, .ref h0_ahead, .int t_curves, .ref h0_ps, .ref h0_as, .ref h0_bs, .ref h0_from, .ref h0_kernelPoint, .ref h0_kernelOrder, .ref h0_marked, .ref h0_seen])), (h0_inverses, .inl (k_t_inverses, 10008, .inl t_inverses)), (h0_roots, .inl (k_t_roots, 10008, .inl t_roots)), (h0_points, .inl (k_t_points, 10300, .inl t_points)), (h0_ahead, .inl (k_t_ahead, 10008, .inl t_ahead))] sz) := by
  refine Met.ofW (cc := cX6_proves) (maxL := 5) (ret := (some .boolean)) (by decide) rfl ?_
  intro p e s m args below meth c s₁ B hml hv
  obtain ⟨rfl, hsz, hP, hK, hN, hD0⟩ := hv
  have hx := B.exec
  have hb := B.bytes
  have hr := B.returns
  have hts := atoms_spec (ws := wsX6_proves) B.pre
  have hown : s.vm.findClass RX6 = some m.cls := findClass_of_methodNamed B.named
  have hlocks := B.notSynchronized
  subst hsz
  have hD := hD0.self (sz := s.heap.size)
  generalize hAe : va_A [(h0, .inr (5, [.int t_p, .int t_a, .int t_b, .ref h0_inverses, .ref h0_roots, .int t_rooted, .ref h0_points, .int t_pointMany, .ref h0_ahead, .int t_curves, .ref h0_ps, .ref h0_as, .ref h0_bs, .ref h0_from, .ref h0_kernelPoint, .ref h0_kernelOrder, .ref h0_marked, .ref h0_seen])), (h0_inverses, .inl (k_t_inverses, 10008, .inl t_inverses)), (h0_roots, .inl (k_t_roots, 10008, .inl t_roots)), (h0_points, .inl (k_t_points, 10300, .inl t_points)), (h0_ahead, .inl (k_t_ahead, 10008, .inl t_ahead))] s.heap.size = A at hD ⊢
  have hA0 : ∀ q : Nat, s.heap.size ≤ q → A q := fun q h => by rw [← hAe]; exact Or.inr h
  have hS : va_S A s.heap s.heap [] := va_S.rf
  have hP : va_P (dC, dI) vwCl [(h0, .inr (5, [.int t_p, .int t_a, .int t_b, .ref h0_inverses, .ref h0_roots, .int t_rooted, .ref h0_points, .int t_pointMany, .ref h0_ahead, .int t_curves, .ref h0_ps, .ref h0_as, .ref h0_bs, .ref h0_from, .ref h0_kernelPoint, .ref h0_kernelOrder, .ref h0_marked, .ref h0_seen])), (h0_inverses, .inl (k_t_inverses, 10008, .inl t_inverses)), (h0_roots, .inl (k_t_roots, 10008, .inl t_roots)), (h0_points, .inl (k_t_points, 10300, .inl t_points)), (h0_ahead, .inl (k_t_ahead, 10008, .inl t_ahead))] s.heap := hP
  have hl := lv_entry ([.ref h0, .int a0]) (n := 5) (Nat.le_of_ble_eq_true rfl)
  rw [lg_entry_eq]
  generalize (lg_sl ([.ref h0, .int a0]) ++ List.replicate (5 - (lg_sl ([.ref h0, .int a0])).length) Slot.unset).toArray = ls at hl ⊢
  have hl : lv_has ls 5 [(0, .ref h0), (1, .int a0)] := hl
  dsimp only [mX6_proves] at h
  refine lv_aload_n hx hb dX6_proves_0 rfl (lv_at hl 0 rfl) ?_
  refine lv_iload_n hx hb dX6_proves_1 rfl (lv_at hl 1 rfl) ?_
  obtain ⟨r1, hr1, h⟩ := Option.bind_eq_some_iff.mp h
  have hPc := hP.sub (ws' := [(h0, .inr (5, [.int t_p, .int t_a, .int t_b, .ref h0_inverses, .ref h0_roots, .int t_rooted, .ref h0_points, .int t_pointMany, .ref h0_ahead, .int t_curves, .ref h0_ps, .ref h0_as, .ref h0_bs, .ref h0_from, .ref h0_kernelPoint, .ref h0_kernelOrder, .ref h0_marked, .ref h0_seen])), (h0_inverses, .inl (k_t_inverses, 10008, .inl t_inverses)), (h0_roots, .inl (k_t_roots, 10008, .inl t_roots)), (h0_points, .inl (k_t_points, 10300, .inl t_points)), (h0_ahead, .inl (k_t_ahead, 10008, .inl t_ahead))]) [0, 1, 2, 3, 4] rfl
  have hDc := hD.sub (ws' := [(h0, .inr (5, [.int t_p, .int t_a, .int t_b, .ref h0_inverses, .ref h0_roots, .int t_rooted, .ref h0_points, .int t_pointMany, .ref h0_ahead, .int t_curves, .ref h0_ps, .ref h0_as, .ref h0_bs, .ref h0_from, .ref h0_kernelPoint, .ref h0_kernelOrder, .ref h0_marked, .ref h0_seen])), (h0_inverses, .inl (k_t_inverses, 10008, .inl t_inverses)), (h0_roots, .inl (k_t_roots, 10008, .inl t_roots)), (h0_points, .inl (k_t_points, 10300, .inl t_points)), (h0_ahead, .inl (k_t_ahead, 10008, .inl t_ahead))]) [0, 1, 2, 3, 4] (by decide) rfl
  have hKc := hK.sub (tys' := [(k_t_inverses, .int), (k_t_roots, .int), (k_t_points, .int), (k_t_ahead, .int)]) [0, 1, 2, 3] rfl
  have hFc := va_free (wc := [(h0, .inr (5, [.int t_p, .int t_a, .int t_b, .ref h0_inverses, .ref h0_roots, .int t_rooted, .ref h0_points, .int t_pointMany, .ref h0_ahead, .int t_curves, .ref h0_ps, .ref h0_as, .ref h0_bs, .ref h0_from, .ref h0_kernelPoint, .ref h0_kernelOrder, .ref h0_marked, .ref h0_seen])), (h0_inverses, .inl (k_t_inverses, 10008, .inl t_inverses)), (h0_roots, .inl (k_t_roots, 10008, .inl t_roots)), (h0_points, .inl (k_t_points, 10300, .inl t_points)), (h0_ahead, .inl (k_t_ahead, 10008, .inl t_ahead))]) hD hS hA0 [0, 1, 2, 3, 4] rfl
  refine va_calli (va_runV (As := [.int a0]) (rest := []) ⟨hx, hb, hml, hown, hts⟩ (ctX6_orderOf l N dC dI _ h0 h0_inverses h0_roots h0_points h0_ahead h0_ps h0_as h0_bs h0_from h0_kernelPoint h0_kernelOrder h0_marked h0_seen k_t_inverses k_t_roots k_t_points k_t_ahead t_p t_a t_b t_rooted t_pointMany t_curves t_inverses t_roots t_points t_ahead a0 r1 hr1) (cwV 1 hts gX6_proves_X6_orderOf rfl rfl rfl (by decide +kernel) ⟨Nat.le_of_ble_eq_true rfl, Nat.le_of_ble_eq_true rfl⟩) ⟨fun a U g mk q => by obtain ⟨q0, q1, qP, qK, qN, qD⟩ := q; exact ⟨q0, q1, qP, va_K.moved (u := U) (U := U.calling g mk a) (Vm.Alike.refl U.vm) qK, nw_same (u := U) (U := U.calling g mk a) rfl qN, qD⟩, va_recv hKc hPc (ci := 5) (q0 := 0) rfl rfl, fun U hU hW => ⟨rfl, by rw [hU], by rw [hU]; exact hPc, va_K.moved hW.alike hKc, nw_warm hW hN, hDc.weaken (fun _ _ _ _ => trivial)⟩⟩ rfl rfl hl.1 rfl (lv_room (Nat.le_of_ble_eq_true rfl)) dX6_proves_2 ⟨Nat.le_of_ble_eq_true rfl, Nat.le_of_ble_eq_true rfl⟩) hS (fun q _ h => hFc q h) hFc (fun rz u t H1 locs ht hvm hw hB1 hz1 hk1 hS => ?_)
  obtain ⟨u2, f3, f4⟩ := u
  obtain ⟨hP1, hK1, hD1⟩ := hB1
  rw [ht] at hP1
  have hK1 := va_K.moved hvm.symm hK1
  obtain ⟨r5, rfl⟩ : ∃ z, z = rz := ⟨_, rfl⟩
  subst hw
  try dsimp only at h
  obtain ⟨hP, hD⟩ := va_join (wr := []) (w1 := [(h0, .inr (5, [.int t_p, .int t_a, .int t_b, .ref h0_inverses, .ref h0_roots, .int t_rooted, .ref h0_points, .int u2, .ref h0_ahead, .int t_curves, .ref h0_ps, .ref h0_as, .ref h0_bs, .ref h0_from, .ref h0_kernelPoint, .ref h0_kernelOrder, .ref h0_marked, .ref h0_seen])), (h0_inverses, .inl (k_t_inverses, 10008, .inl t_inverses)), (h0_roots, .inl (k_t_roots, 10008, .inl t_roots)), (h0_points, .inl (k_t_points, 10300, .inl f3)), (h0_ahead, .inl (k_t_ahead, 10008, .inl f4))]) hP hD [0, 1, 2, 3, 4] [] rfl rfl (by decide) (by decide) hk1 hFc hP1 hD1
  generalize H1 = H at hP hS ⊢
  have hP := hP.sub (ws' := [(h0, .inr (5, [.int t_p, .int t_a, .int t_b, .ref h0_inverses, .ref h0_roots, .int t_rooted, .ref h0_points, .int u2, .ref h0_ahead, .int t_curves, .ref h0_ps, .ref h0_as, .ref h0_bs, .ref h0_from, .ref h0_kernelPoint, .ref h0_kernelOrder, .ref h0_marked, .ref h0_seen])), (h0_inverses, .inl (k_t_inverses, 10008, .inl t_inverses)), (h0_roots, .inl (k_t_roots, 10008, .inl t_roots)), (h0_points, .inl (k_t_points, 10300, .inl f3)), (h0_ahead, .inl (k_t_ahead, 10008, .inl f4))]) [0, 1, 2, 3, 4] rfl
  have hD := hD.sub (ws' := [(h0, .inr (5, [.int t_p, .int t_a, .int t_b, .ref h0_inverses, .ref h0_roots, .int t_rooted, .ref h0_points, .int u2, .ref h0_ahead, .int t_curves, .ref h0_ps, .ref h0_as, .ref h0_bs, .ref h0_from, .ref h0_kernelPoint, .ref h0_kernelOrder, .ref h0_marked, .ref h0_seen])), (h0_inverses, .inl (k_t_inverses, 10008, .inl t_inverses)), (h0_roots, .inl (k_t_roots, 10008, .inl t_roots)), (h0_points, .inl (k_t_points, 10300, .inl f3)), (h0_ahead, .inl (k_t_ahead, 10008, .inl f4))]) [0, 1, 2, 3, 4] (by decide) rfl
  refine lv_istore_n (lv' := [(2, .int r5), (0, .ref h0), (1, .int a0)]) hx hb dX6_proves_5 rfl hl (by decide) rfl (fun ls hl => ?_)
  refine lv_aload_n hx hb dX6_proves_6 rfl (lv_at hl 1 rfl) ?_
  obtain ⟨r6, hr6, h⟩ := Option.bind_eq_some_iff.mp h
  have hPc := hP.sub (ws' := [(h0, .inr (5, [.int t_p, .int t_a, .int t_b, .ref h0_inverses, .ref h0_roots, .int t_rooted, .ref h0_points, .int u2, .ref h0_ahead, .int t_curves, .ref h0_ps, .ref h0_as, .ref h0_bs, .ref h0_from, .ref h0_kernelPoint, .ref h0_kernelOrder, .ref h0_marked, .ref h0_seen]))]) [0] rfl
  have hKc := hK.sub (tys' := []) [] rfl
  refine vp_callSi (W.runV (As := []) (rest := []) ⟨hx, hb, hml, hown, hts⟩ (ctX6_least l N dC dI  h0 h0_inverses h0_roots h0_points h0_ahead h0_ps h0_as h0_bs h0_from h0_kernelPoint h0_kernelOrder h0_marked h0_seen t_p t_a t_b t_rooted u2 t_curves r6 hr6) (cwV 0 hts gX6_proves_X6_least rfl rfl rfl (by decide +kernel) ⟨Nat.le_of_ble_eq_true rfl, Nat.le_of_ble_eq_true rfl⟩) ⟨fun a U g mk q => by obtain ⟨q0, qP, qK, qN⟩ := q; exact ⟨q0, qP, va_K.moved (u := U) (U := U.calling g mk a) (Vm.Alike.refl U.vm) qK, nw_same (u := U) (U := U.calling g mk a) rfl qN⟩, va_recv hKc hPc (ci := 5) (q0 := 0) rfl rfl, fun U hU hW => ⟨rfl, by rw [hU]; exact hPc, va_K.moved hW.alike hKc, nw_warm hW hN⟩⟩ rfl rfl hl.1 rfl (lv_room (Nat.le_of_ble_eq_true rfl)) dX6_proves_7 ⟨Nat.le_of_ble_eq_true rfl, Nat.le_of_ble_eq_true rfl⟩) (fun q9 eq9 => ?_)
  subst q9
  refine lv_istore_n (lv' := [(3, .int r6), (2, .int r5), (0, .ref h0), (1, .int a0)]) hx hb dX6_proves_10 rfl hl (by decide) rfl (fun ls hl => ?_)
  refine lv_iconst (v := 2) hx hb dX6_proves_11 (by decide) ?_
  refine lv_aload_n hx hb dX6_proves_12 rfl (lv_at hl 2 rfl) ?_
  refine va_get (D := (dC, dI)) (ci := 5) (v := .int t_p) (C := RX6) (T := TX6) (N := 18) hx hb hts (by decide +kernel) hown hK hP 0 rfl rfl 0 (by decide) (hts (.fieldLink RX6 47 "PointRingsModel" "p" "I") (by decide +kernel)) (fun _ h9 => h9) rfl dX6_proves_13 ?_
  refine lv_imul hx hb dX6_proves_16 ?_
  refine lv_iconst (v := 2) hx hb dX6_proves_17 (by decide) ?_
  refine lv_iadd hx hb dX6_proves_18 ?_
  refine lv_iload_n hx hb dX6_proves_19 rfl (lv_at hl 0 rfl) ?_
  refine lv_isub hx hb dX6_proves_20 ?_
  refine lv_topi (fun v7 ev7 => ?_)
  replace h := mi_use ev7 h
  refine lv_istore (lv' := [(4, .int v7), (3, .int r6), (2, .int r5), (0, .ref h0), (1, .int a0)]) hx hb dX6_proves_21 hl (by decide) rfl (fun ls hl => ?_)
  refine lv_iload hx hb dX6_proves_23 (lv_at hl 0 rfl) ?_
  refine lv_iload_n hx hb dX6_proves_25 rfl (lv_at hl 2 rfl) ?_
  have hn8 : ¬ r5 = 0 := fun hz => absurd ((if_pos hz).symm.trans h) (fun hh => nomatch hh)
  replace h := (if_neg hn8).symm.trans h
  refine lv_idiv hx hb dX6_proves_26 hn8 ?_
  refine lv_topi (fun v9 ev9 => ?_)
  replace h := mi_use ev9 h
  refine lv_iload_n hx hb dX6_proves_27 rfl (lv_at hl 1 rfl) ?_
  refine lv_iconst (v := 1) hx hb dX6_proves_28 (by decide) ?_
  refine lv_isub hx hb dX6_proves_29 ?_
  refine lv_iload_n hx hb dX6_proves_30 rfl (lv_at hl 2 rfl) ?_
  have hn10 : ¬ r5 = 0 := fun hz => absurd ((if_pos hz).symm.trans h) (fun hh => nomatch hh)
  replace h := (if_neg hn10).symm.trans h
  refine lv_idiv hx hb dX6_proves_31 hn10 ?_
  refine lv_topi (fun v11 ev11 => ?_)
  replace h := mi_use ev11 h
  refine lv_isub hx hb dX6_proves_32 ?_
  refine lv_iconst (v := 1) hx hb dX6_proves_33 (by decide) ?_
  refine lv_icmp_ne (tgt := 41) hx hb dX6_proves_34 (by decide) (fun c12 => ?_) (fun c12 => ?_)
  · replace h := (if_neg c12).symm.trans h
    refine lv_iconst (v := 0) hx hb dX6_proves_41 (by decide) ?_
    have hv : (0, u2, f3, f4) = rr := Option.some.inj h
    have hP9 := hP.sub (ws' := [(h0, .inr (5, [.int t_p, .int t_a, .int t_b, .ref h0_inverses, .ref h0_roots, .int t_rooted, .ref h0_points, .int u2, .ref h0_ahead, .int t_curves, .ref h0_ps, .ref h0_as, .ref h0_bs, .ref h0_from, .ref h0_kernelPoint, .ref h0_kernelOrder, .ref h0_marked, .ref h0_seen])), (h0_inverses, .inl (k_t_inverses, 10008, .inl t_inverses)), (h0_roots, .inl (k_t_roots, 10008, .inl t_roots)), (h0_points, .inl (k_t_points, 10300, .inl f3)), (h0_ahead, .inl (k_t_ahead, 10008, .inl f4))]) [0, 1, 2, 3, 4] rfl
    have hD9 := hD.sub (ws' := [(h0, .inr (5, [.int t_p, .int t_a, .int t_b, .ref h0_inverses, .ref h0_roots, .int t_rooted, .ref h0_points, .int u2, .ref h0_ahead, .int t_curves, .ref h0_ps, .ref h0_as, .ref h0_bs, .ref h0_from, .ref h0_kernelPoint, .ref h0_kernelOrder, .ref h0_marked, .ref h0_seen])), (h0_inverses, .inl (k_t_inverses, 10008, .inl t_inverses)), (h0_roots, .inl (k_t_roots, 10008, .inl t_roots)), (h0_points, .inl (k_t_points, 10300, .inl f3)), (h0_ahead, .inl (k_t_ahead, 10008, .inl f4))]) [0, 1, 2, 3, 4] (by decide) rfl
    have hK9 := hK.sub (tys' := [(k_t_inverses, .int), (k_t_roots, .int), (k_t_points, .int), (k_t_ahead, .int)]) [0, 1, 2, 3] rfl
    exact W.zret (v := 0) hx hb hr (by decide) (fun t ht hW => ⟨⟨0, (u2, f3, f4), rfl, hv, by rw [ht]; exact hP9, va_K.moved hW.alike hK9, hD9⟩, hS.F ht⟩) hS.2.2 dX6_proves_42
  · replace h := (if_pos c12).symm.trans h
    refine lv_iconst (v := 1) hx hb dX6_proves_37 (by decide) ?_
    refine lv_goto (tgt := 42) hx hb dX6_proves_38 (by decide) ?_
    have hv : (1, u2, f3, f4) = rr := Option.some.inj h
    have hP9 := hP.sub (ws' := [(h0, .inr (5, [.int t_p, .int t_a, .int t_b, .ref h0_inverses, .ref h0_roots, .int t_rooted, .ref h0_points, .int u2, .ref h0_ahead, .int t_curves, .ref h0_ps, .ref h0_as, .ref h0_bs, .ref h0_from, .ref h0_kernelPoint, .ref h0_kernelOrder, .ref h0_marked, .ref h0_seen])), (h0_inverses, .inl (k_t_inverses, 10008, .inl t_inverses)), (h0_roots, .inl (k_t_roots, 10008, .inl t_roots)), (h0_points, .inl (k_t_points, 10300, .inl f3)), (h0_ahead, .inl (k_t_ahead, 10008, .inl f4))]) [0, 1, 2, 3, 4] rfl
    have hD9 := hD.sub (ws' := [(h0, .inr (5, [.int t_p, .int t_a, .int t_b, .ref h0_inverses, .ref h0_roots, .int t_rooted, .ref h0_points, .int u2, .ref h0_ahead, .int t_curves, .ref h0_ps, .ref h0_as, .ref h0_bs, .ref h0_from, .ref h0_kernelPoint, .ref h0_kernelOrder, .ref h0_marked, .ref h0_seen])), (h0_inverses, .inl (k_t_inverses, 10008, .inl t_inverses)), (h0_roots, .inl (k_t_roots, 10008, .inl t_roots)), (h0_points, .inl (k_t_points, 10300, .inl f3)), (h0_ahead, .inl (k_t_ahead, 10008, .inl f4))]) [0, 1, 2, 3, 4] (by decide) rfl
    have hK9 := hK.sub (tys' := [(k_t_inverses, .int), (k_t_roots, .int), (k_t_points, .int), (k_t_ahead, .int)]) [0, 1, 2, 3] rfl
    exact W.zret (v := 1) hx hb hr (by decide) (fun t ht hW => ⟨⟨1, (u2, f3, f4), rfl, hv, by rw [ht]; exact hP9, va_K.moved hW.alike hK9, hD9⟩, hS.F ht⟩) hS.2.2 dX6_proves_42
