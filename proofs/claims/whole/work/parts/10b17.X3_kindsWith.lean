def mX3_kindsWith_b35 (N : Nat) (a0 : Int32) (a1 : Int32) (st : Int32 × Int32 × Int32 × (Nat → Int32)) : Option ((Int32 × Int32 × Int32 × (Nat → Int32)) ⊕ (Int32 × Int32 × Int32 × (Nat → Int32))) :=
  match st with
  | (x12, x13, x14, x15) => if (a0 - 1) ≤ x13 then some (.inr (x12, x13, x14, x15)) else if a0 = 0 then none else mi_let (mi_rem (3 * x13) a0) (fun v22 => if a0 = 0 then none else mi_let (mi_rem (2 * x13) a0) (fun v24 => (mX3_manyPoints N x14 x15 a0 v22 v24).bind (fun r25 => match r25 with | (r28, u26, f27) => if r28 = a1 then mi_let (x12 + 1) (fun v30 => mi_let (x13 + 1) (fun v31 => some (.inl (v30, v31, u26, f27)))) else if (((2 * a0) + 2) - r28) = a1 then mi_let (x12 + 1) (fun v35 => mi_let (x13 + 1) (fun v36 => some (.inl (v35, v36, u26, f27)))) else mi_let (x12 + 0) (fun v33 => mi_let (x13 + 1) (fun v34 => some (.inl (v33, v34, u26, f27)))))))
def mX3_kindsWith (N : Nat) (t_roots_prime : Int32) (t_roots_least : Nat → Int32) (a0 : Int32) (a1 : Int32) : Option (Int32 × Int32 × (Nat → Int32)) := (mX3_manyWithoutA N t_roots_prime t_roots_least a0 a1).bind (fun r1 => match r1 with | (r4, u2, f3) => if r4 ≤ 0 then (mX3_manyWithoutB N u2 f3 a0 a1).bind (fun r6 => match r6 with | (r9, u7, f8) => if r9 ≤ 0 then mi_let ((0 : Int32) + 0) (fun v11 => (mi_run (mX3_kindsWith_b35 N a0 a1) N (v11, 1, u7, f8)).bind (fun o37 => match o37 with | (y16, y17, y18, y19) => some (y16, y18, y19))) else mi_let ((0 : Int32) + 1) (fun v38 => (mi_run (mX3_kindsWith_b35 N a0 a1) N (v38, 1, u7, f8)).bind (fun o64 => match o64 with | (y43, y44, y45, y46) => some (y43, y45, y46)))) else (mX3_manyWithoutB N u2 f3 a0 a1).bind (fun r65 => match r65 with | (r68, u66, f67) => if r68 ≤ 0 then mi_let ((1 : Int32) + 0) (fun v70 => (mi_run (mX3_kindsWith_b35 N a0 a1) N (v70, 1, u66, f67)).bind (fun o96 => match o96 with | (y75, y76, y77, y78) => some (y75, y77, y78))) else mi_let ((1 : Int32) + 1) (fun v97 => (mi_run (mX3_kindsWith_b35 N a0 a1) N (v97, 1, u66, f67)).bind (fun o123 => match o123 with | (y102, y103, y104, y105) => some (y102, y104, y105)))))
abbrev rmX3_kindsWith : Room := { frames := 5, cells := 0, slots := 0, locals := 115 }
set_option maxHeartbeats 4000000 in
set_option maxRecDepth 100000 in
theorem ctX3_kindsWith (l : Launch) (N : Nat) (dC : Nat → ClassId) (dI : Nat → Nat → Nat) (sz : Nat) (h0 : Nat) (h0_roots : Nat) (h0_roots_least : Nat) (h0_strides : Nat) (h0_halvesFound : Nat) (k_t_roots_least : ClassId) (t_roots_prime : Int32) (t_roots_least : Nat → Int32) (a0 : Int32) (a1 : Int32) (rr : Int32 × Int32 × (Nat → Int32)) (h : mX3_kindsWith N t_roots_prime t_roots_least a0 a1 = some rr) : Met l yX3_kindsWith wsX3_kindsWith rmX3_kindsWith (va_Pc [.ref h0, .int a0, .int a1] (fun U => U.heap.size = sz ∧ va_P (dC, dI) vwCl [(h0, .inr (3, [.ref h0_roots, .ref h0_strides, .ref h0_halvesFound])), (h0_roots, .inr (1, [.ref h0_roots_least, .int t_roots_prime])), (h0_roots_least, .inl (k_t_roots_least, 10007, .inl t_roots_least))] U.heap ∧ va_K (dC, dI) vwCl [(k_t_roots_least, .int)] U ∧ nw_all U ∧ va_D (fun _ => True) [(h0, .inr (3, [.ref h0_roots, .ref h0_strides, .ref h0_halvesFound])), (h0_roots, .inr (1, [.ref h0_roots_least, .int t_roots_prime])), (h0_roots_least, .inl (k_t_roots_least, 10007, .inl t_roots_least))])) (va_Qi (fun (r : Int32) (u : Int32 × (Nat → Int32)) => (r, u) = rr) (fun (u : Int32 × (Nat → Int32)) t => match u with | (u0, u1) => va_P (dC, dI) vwCl [(h0, .inr (3, [.ref h0_roots, .ref h0_strides, .ref h0_halvesFound])), (h0_roots, .inr (1, [.ref h0_roots_least, .int u0])), (h0_roots_least, .inl (k_t_roots_least, 10007, .inl u1))] t.heap ∧ va_K (dC, dI) vwCl [(k_t_roots_least, .int)] t ∧ va_D (va_A [(h0, .inr (3, [.ref h0_roots, .ref h0_strides, .ref h0_halvesFound])), (h0_roots, .inr (1, [.ref h0_roots_least, .int t_roots_prime])), (h0_roots_least, .inl (k_t_roots_least, 10007, .inl t_roots_least))] sz) [(h0, .inr (3, [.ref h0_roots, .ref h0_strides, .ref h0_halvesFound])), (h0_roots, .inr (1, [.ref h0_roots_least, .int u0])), (h0_roots_least, .inl (k_t_roots_least, 10007, .inl u1))]) (va_A [(h0, .inr (3, [.ref h0_roots, .ref h0_strides, .ref h0_halvesFound])), (h0_roots, .inr (1, [.ref h0_roots_least, .int t_roots_prime])), (h0_roots_least, .inl (k_t_roots_least, 10007, .inl t_roots_least))] sz)) 0 0 (va_A [(h0, .inr (3, [.ref h0_roots, .ref h0_strides, .ref h0_halvesFound])), (h0_roots, .inr (1, [.ref h0_roots_least, .int t_roots_prime])), (h0_roots_least, .inl (k_t_roots_least, 10007, .inl t_roots_least))] sz) := by
  refine Met.ofW (cc := cX3_kindsWith) (maxL := 6) (ret := (some .int)) (by decide) rfl ?_
  intro p e s m args below meth c s₁ B hml hv
  obtain ⟨rfl, hsz, hP, hK, hN, hD0⟩ := hv
  have hx := B.exec
  have hb := B.bytes
  have hr := B.returns
  have hts := atoms_spec (ws := wsX3_kindsWith) B.pre
  have hown : s.vm.findClass RX3 = some m.cls := findClass_of_methodNamed B.named
  have hlocks := B.notSynchronized
  subst hsz
  have hD := hD0.self (sz := s.heap.size)
  generalize hAe : va_A [(h0, .inr (3, [.ref h0_roots, .ref h0_strides, .ref h0_halvesFound])), (h0_roots, .inr (1, [.ref h0_roots_least, .int t_roots_prime])), (h0_roots_least, .inl (k_t_roots_least, 10007, .inl t_roots_least))] s.heap.size = A at hD ⊢
  have hA0 : ∀ q : Nat, s.heap.size ≤ q → A q := fun q h => by rw [← hAe]; exact Or.inr h
  have hS : va_S A s.heap s.heap [] := va_S.rf
  have hP : va_P (dC, dI) vwCl [(h0, .inr (3, [.ref h0_roots, .ref h0_strides, .ref h0_halvesFound])), (h0_roots, .inr (1, [.ref h0_roots_least, .int t_roots_prime])), (h0_roots_least, .inl (k_t_roots_least, 10007, .inl t_roots_least))] s.heap := hP
  have hl := lv_entry ([.ref h0, .int a0, .int a1]) (n := 6) (Nat.le_of_ble_eq_true rfl)
  rw [lg_entry_eq]
  generalize (lg_sl ([.ref h0, .int a0, .int a1]) ++ List.replicate (6 - (lg_sl ([.ref h0, .int a0, .int a1])).length) Slot.unset).toArray = ls at hl ⊢
  have hl : lv_has ls 6 [(0, .ref h0), (1, .int a0), (2, .int a1)] := hl
  dsimp only [mX3_kindsWith] at h
  refine lv_aload_n hx hb dX3_kindsWith_0 rfl (lv_at hl 0 rfl) ?_
  refine lv_iload_n hx hb dX3_kindsWith_1 rfl (lv_at hl 1 rfl) ?_
  refine lv_iload_n hx hb dX3_kindsWith_2 rfl (lv_at hl 2 rfl) ?_
  obtain ⟨r1, hr1, h⟩ := Option.bind_eq_some_iff.mp h
  have hPc := hP.sub (ws' := [(h0, .inr (3, [.ref h0_roots, .ref h0_strides, .ref h0_halvesFound])), (h0_roots, .inr (1, [.ref h0_roots_least, .int t_roots_prime])), (h0_roots_least, .inl (k_t_roots_least, 10007, .inl t_roots_least))]) [0, 1, 2] rfl
  have hDc := hD.sub (ws' := [(h0, .inr (3, [.ref h0_roots, .ref h0_strides, .ref h0_halvesFound])), (h0_roots, .inr (1, [.ref h0_roots_least, .int t_roots_prime])), (h0_roots_least, .inl (k_t_roots_least, 10007, .inl t_roots_least))]) [0, 1, 2] (by decide) rfl
  have hKc := hK.sub (tys' := [(k_t_roots_least, .int)]) [0] rfl
  have hFc := va_free (wc := [(h0, .inr (3, [.ref h0_roots, .ref h0_strides, .ref h0_halvesFound])), (h0_roots, .inr (1, [.ref h0_roots_least, .int t_roots_prime])), (h0_roots_least, .inl (k_t_roots_least, 10007, .inl t_roots_least))]) hD hS hA0 [0, 1, 2] rfl
  refine va_calli (va_runV (As := [.int a0, .int a1]) (rest := []) ⟨hx, hb, hml, hown, hts⟩ (ctX3_manyWithoutA l N dC dI _ h0 h0_roots h0_roots_least h0_strides h0_halvesFound k_t_roots_least t_roots_prime t_roots_least a0 a1 r1 hr1) (cwV 2 hts gX3_kindsWith_X3_manyWithoutA rfl rfl rfl (by decide +kernel) ⟨Nat.le_of_ble_eq_true rfl, Nat.le_of_ble_eq_true rfl⟩) ⟨fun a U g mk q => by obtain ⟨q0, q1, qP, qK, qN, qD⟩ := q; exact ⟨q0, q1, qP, va_K.moved (u := U) (U := U.calling g mk a) (Vm.Alike.refl U.vm) qK, nw_same (u := U) (U := U.calling g mk a) rfl qN, qD⟩, va_recv hKc hPc (ci := 3) (q0 := 0) rfl rfl, fun U hU hW => ⟨rfl, by rw [hU], by rw [hU]; exact hPc, va_K.moved hW.alike hKc, nw_warm hW hN, hDc.weaken (fun _ _ _ _ => trivial)⟩⟩ rfl rfl hl.1 rfl (lv_room (Nat.le_of_ble_eq_true rfl)) dX3_kindsWith_3 ⟨Nat.le_of_ble_eq_true rfl, Nat.le_of_ble_eq_true rfl⟩) hS (fun q _ h => hFc q h) hFc (fun rz u t H1 locs ht hvm hw hB1 hz1 hk1 hS => ?_)
  obtain ⟨u2, f3⟩ := u
  obtain ⟨hP1, hK1, hD1⟩ := hB1
  rw [ht] at hP1
  have hK1 := va_K.moved hvm.symm hK1
  obtain ⟨r4, rfl⟩ : ∃ z, z = rz := ⟨_, rfl⟩
  subst hw
  try dsimp only at h
  obtain ⟨hP, hD⟩ := va_join (wr := []) (w1 := [(h0, .inr (3, [.ref h0_roots, .ref h0_strides, .ref h0_halvesFound])), (h0_roots, .inr (1, [.ref h0_roots_least, .int u2])), (h0_roots_least, .inl (k_t_roots_least, 10007, .inl f3))]) hP hD [0, 1, 2] [] rfl rfl (by decide) (by decide) hk1 hFc hP1 hD1
  generalize H1 = H at hP hS ⊢
  have hP := hP.sub (ws' := [(h0, .inr (3, [.ref h0_roots, .ref h0_strides, .ref h0_halvesFound])), (h0_roots, .inr (1, [.ref h0_roots_least, .int u2])), (h0_roots_least, .inl (k_t_roots_least, 10007, .inl f3))]) [0, 1, 2] rfl
  have hD := hD.sub (ws' := [(h0, .inr (3, [.ref h0_roots, .ref h0_strides, .ref h0_halvesFound])), (h0_roots, .inr (1, [.ref h0_roots_least, .int u2])), (h0_roots_least, .inl (k_t_roots_least, 10007, .inl f3))]) [0, 1, 2] (by decide) rfl
  refine lv_if_le (tgt := 13) hx hb dX3_kindsWith_6 (by decide) (fun c5 => ?_) (fun c5 => ?_)
  · replace h := (if_pos c5).symm.trans h
    refine lv_iconst (v := 0) hx hb dX3_kindsWith_13 (by decide) ?_
    refine lv_istore_n (lv' := [(3, .int 0), (0, .ref h0), (1, .int a0), (2, .int a1)]) hx hb dX3_kindsWith_14 rfl hl (by decide) rfl (fun ls hl => ?_)
    refine lv_iload_n hx hb dX3_kindsWith_15 rfl (lv_at hl 0 rfl) ?_
    refine lv_aload_n hx hb dX3_kindsWith_16 rfl (lv_at hl 1 rfl) ?_
    refine lv_iload_n hx hb dX3_kindsWith_17 rfl (lv_at hl 2 rfl) ?_
    refine lv_iload_n hx hb dX3_kindsWith_18 rfl (lv_at hl 3 rfl) ?_
    obtain ⟨r6, hr6, h⟩ := Option.bind_eq_some_iff.mp h
    have hPc := hP.sub (ws' := [(h0, .inr (3, [.ref h0_roots, .ref h0_strides, .ref h0_halvesFound])), (h0_roots, .inr (1, [.ref h0_roots_least, .int u2])), (h0_roots_least, .inl (k_t_roots_least, 10007, .inl f3))]) [0, 1, 2] rfl
    have hDc := hD.sub (ws' := [(h0, .inr (3, [.ref h0_roots, .ref h0_strides, .ref h0_halvesFound])), (h0_roots, .inr (1, [.ref h0_roots_least, .int u2])), (h0_roots_least, .inl (k_t_roots_least, 10007, .inl f3))]) [0, 1, 2] (by decide) rfl
    have hKc := hK.sub (tys' := [(k_t_roots_least, .int)]) [0] rfl
    have hFc := va_free (wc := [(h0, .inr (3, [.ref h0_roots, .ref h0_strides, .ref h0_halvesFound])), (h0_roots, .inr (1, [.ref h0_roots_least, .int u2])), (h0_roots_least, .inl (k_t_roots_least, 10007, .inl f3))]) hD hS hA0 [0, 1, 2] rfl
    refine va_calli (va_runV (As := [.int a0, .int a1]) (rest := [.int 0]) ⟨hx, hb, hml, hown, hts⟩ (ctX3_manyWithoutB l N dC dI _ h0 h0_roots h0_roots_least h0_strides h0_halvesFound k_t_roots_least u2 f3 a0 a1 r6 hr6) (cwV 2 hts gX3_kindsWith_X3_manyWithoutB rfl rfl rfl (by decide +kernel) ⟨Nat.le_of_ble_eq_true rfl, Nat.le_of_ble_eq_true rfl⟩) ⟨fun a U g mk q => by obtain ⟨q0, q1, qP, qK, qN, qD⟩ := q; exact ⟨q0, q1, qP, va_K.moved (u := U) (U := U.calling g mk a) (Vm.Alike.refl U.vm) qK, nw_same (u := U) (U := U.calling g mk a) rfl qN, qD⟩, va_recv hKc hPc (ci := 3) (q0 := 0) rfl rfl, fun U hU hW => ⟨rfl, by rw [hU], by rw [hU]; exact hPc, va_K.moved hW.alike hKc, nw_warm hW hN, hDc.weaken (fun _ _ _ _ => trivial)⟩⟩ rfl rfl hl.1 rfl (lv_room (Nat.le_of_ble_eq_true rfl)) dX3_kindsWith_19 ⟨Nat.le_of_ble_eq_true rfl, Nat.le_of_ble_eq_true rfl⟩) hS (fun q _ h => hFc q h) hFc (fun rz u t H1 locs ht hvm hw hB1 hz1 hk1 hS => ?_)
    obtain ⟨u7, f8⟩ := u
    obtain ⟨hP1, hK1, hD1⟩ := hB1
    rw [ht] at hP1
    have hK1 := va_K.moved hvm.symm hK1
    obtain ⟨r9, rfl⟩ : ∃ z, z = rz := ⟨_, rfl⟩
    subst hw
    try dsimp only at h
    obtain ⟨hP, hD⟩ := va_join (wr := []) (w1 := [(h0, .inr (3, [.ref h0_roots, .ref h0_strides, .ref h0_halvesFound])), (h0_roots, .inr (1, [.ref h0_roots_least, .int u7])), (h0_roots_least, .inl (k_t_roots_least, 10007, .inl f8))]) hP hD [0, 1, 2] [] rfl rfl (by decide) (by decide) hk1 hFc hP1 hD1
    generalize H1 = H at hP hS ⊢
    have hP := hP.sub (ws' := [(h0, .inr (3, [.ref h0_roots, .ref h0_strides, .ref h0_halvesFound])), (h0_roots, .inr (1, [.ref h0_roots_least, .int u7])), (h0_roots_least, .inl (k_t_roots_least, 10007, .inl f8))]) [0, 1, 2] rfl
    have hD := hD.sub (ws' := [(h0, .inr (3, [.ref h0_roots, .ref h0_strides, .ref h0_halvesFound])), (h0_roots, .inr (1, [.ref h0_roots_least, .int u7])), (h0_roots_least, .inl (k_t_roots_least, 10007, .inl f8))]) [0, 1, 2] (by decide) rfl
    refine lv_if_le (tgt := 29) hx hb dX3_kindsWith_22 (by decide) (fun c10 => ?_) (fun c10 => ?_)
    · replace h := (if_pos c10).symm.trans h
      refine lv_iconst (v := 0) hx hb dX3_kindsWith_29 (by decide) ?_
      refine lv_iadd hx hb dX3_kindsWith_30 ?_
      refine lv_topi (fun v11 ev11 => ?_)
      replace h := mi_use ev11 h
      refine lv_istore_n (lv' := [(3, .int v11), (0, .ref h0), (1, .int a0), (2, .int a1)]) hx hb dX3_kindsWith_31 rfl hl (by decide) rfl (fun ls hl => ?_)
      refine lv_iconst (v := 1) hx hb dX3_kindsWith_32 (by decide) ?_
      refine lv_istore (lv' := [(4, .int 1), (3, .int v11), (0, .ref h0), (1, .int a0), (2, .int a1)]) hx hb dX3_kindsWith_33 hl (by decide) rfl (fun ls hl => ?_)
      have L35 : ∀ (n : Nat) (x12 : Int32) (x13 : Int32) (x14 : Int32) (x15 : Nat → Int32) (o : Int32 × Int32 × Int32 × (Nat → Int32)), mi_run (mX3_kindsWith_b35 N a0 a1) n (x12, x13, x14, x15) = some o → (∀ (y16 : Int32) (y17 : Int32) (y18 : Int32) (y19 : Nat → Int32), o = (y16, y17, y18, y19) → ∀ (H : Heap) (locs : List Loc) (ls : Array Slot), va_P (dC, dI) vwCl [(h0, .inr (3, [.ref h0_roots, .ref h0_strides, .ref h0_halvesFound])), (h0_roots, .inr (1, [.ref h0_roots_least, .int y18])), (h0_roots_least, .inl (k_t_roots_least, 10007, .inl y19))] H → va_D A [(h0, .inr (3, [.ref h0_roots, .ref h0_strides, .ref h0_halvesFound])), (h0_roots, .inr (1, [.ref h0_roots_least, .int y18])), (h0_roots_least, .inl (k_t_roots_least, 10007, .inl y19))] → va_S A s.heap H locs → lv_has ls 6 [(3, .int y16), (4, .int y17), (0, .ref h0), (1, .int a0), (2, .int a1)] → W p l e (headSpec wsX3_kindsWith rmX3_kindsWith).room s m (([.ref h0, .int a0, .int a1] : List Value).toArray) below meth c H locs 0 0 (MQ below (va_Qi (fun (r : Int32) (u : Int32 × (Nat → Int32)) => (r, u) = rr) (fun (u : Int32 × (Nat → Int32)) t => match u with | (u0, u1) => va_P (dC, dI) vwCl [(h0, .inr (3, [.ref h0_roots, .ref h0_strides, .ref h0_halvesFound])), (h0_roots, .inr (1, [.ref h0_roots_least, .int u0])), (h0_roots_least, .inl (k_t_roots_least, 10007, .inl u1))] t.heap ∧ va_K (dC, dI) vwCl [(k_t_roots_least, .int)] t ∧ va_D (A) [(h0, .inr (3, [.ref h0_roots, .ref h0_strides, .ref h0_halvesFound])), (h0_roots, .inr (1, [.ref h0_roots_least, .int u0])), (h0_roots_least, .inl (k_t_roots_least, 10007, .inl u1))]) (A)) (([.ref h0, .int a0, .int a1] : List Value).toArray) s 0 0 A) (F0 m 94 ls [])) → ∀ (H : Heap) (locs : List Loc) (ls : Array Slot), va_P (dC, dI) vwCl [(h0, .inr (3, [.ref h0_roots, .ref h0_strides, .ref h0_halvesFound])), (h0_roots, .inr (1, [.ref h0_roots_least, .int x14])), (h0_roots_least, .inl (k_t_roots_least, 10007, .inl x15))] H → va_D A [(h0, .inr (3, [.ref h0_roots, .ref h0_strides, .ref h0_halvesFound])), (h0_roots, .inr (1, [.ref h0_roots_least, .int x14])), (h0_roots_least, .inl (k_t_roots_least, 10007, .inl x15))] → va_S A s.heap H locs → lv_has ls 6 [(3, .int x12), (4, .int x13), (0, .ref h0), (1, .int a0), (2, .int a1)] → W p l e (headSpec wsX3_kindsWith rmX3_kindsWith).room s m (([.ref h0, .int a0, .int a1] : List Value).toArray) below meth c H locs 0 0 (MQ below (va_Qi (fun (r : Int32) (u : Int32 × (Nat → Int32)) => (r, u) = rr) (fun (u : Int32 × (Nat → Int32)) t => match u with | (u0, u1) => va_P (dC, dI) vwCl [(h0, .inr (3, [.ref h0_roots, .ref h0_strides, .ref h0_halvesFound])), (h0_roots, .inr (1, [.ref h0_roots_least, .int u0])), (h0_roots_least, .inl (k_t_roots_least, 10007, .inl u1))] t.heap ∧ va_K (dC, dI) vwCl [(k_t_roots_least, .int)] t ∧ va_D (A) [(h0, .inr (3, [.ref h0_roots, .ref h0_strides, .ref h0_halvesFound])), (h0_roots, .inr (1, [.ref h0_roots_least, .int u0])), (h0_roots_least, .inl (k_t_roots_least, 10007, .inl u1))]) (A)) (([.ref h0, .int a0, .int a1] : List Value).toArray) s 0 0 A) (F0 m 35 ls []) := by
        intro n
        induction n with
        | zero => intro x12 x13 x14 x15 o h; exact absurd h (mi_run_0 _ _ _)
        | succ n ih =>
          intro x12 x13 x14 x15 o h hkE H locs ls hP hD hS hl
          obtain ⟨w, h, hA, hB⟩ := mi_run_s h
          dsimp only [mX3_kindsWith_b35] at h
          refine lv_iload hx hb dX3_kindsWith_35 (lv_at hl 1 rfl) ?_
          refine lv_iload_n hx hb dX3_kindsWith_37 rfl (lv_at hl 3 rfl) ?_
          refine lv_iconst (v := 1) hx hb dX3_kindsWith_38 (by decide) ?_
          refine lv_isub hx hb dX3_kindsWith_39 ?_
          refine lv_icmp_ge (tgt := 94) hx hb dX3_kindsWith_40 (by decide) (fun c20 => ?_) (fun c20 => ?_)
          · replace h := (if_pos c20).symm.trans h
            exact hkE _ _ _ _ (hB _ (Option.some.inj h).symm) _ _ ls hP hD hS (lv_sub hl [0, 1, 2, 3, 4] rfl)
          · replace h := (if_neg c20).symm.trans h
            refine lv_aload_n hx hb dX3_kindsWith_43 rfl (lv_at hl 2 rfl) ?_
            refine lv_iload_n hx hb dX3_kindsWith_44 rfl (lv_at hl 3 rfl) ?_
            refine lv_iconst (v := 3) hx hb dX3_kindsWith_45 (by decide) ?_
            refine lv_iload hx hb dX3_kindsWith_46 (lv_at hl 1 rfl) ?_
            refine lv_imul hx hb dX3_kindsWith_48 ?_
            refine lv_iload_n hx hb dX3_kindsWith_49 rfl (lv_at hl 3 rfl) ?_
            have hn21 : ¬ a0 = 0 := fun hz => absurd ((if_pos hz).symm.trans h) (fun hh => nomatch hh)
            replace h := (if_neg hn21).symm.trans h
            refine lv_irem hx hb dX3_kindsWith_50 hn21 ?_
            refine lv_topi (fun v22 ev22 => ?_)
            replace h := mi_use ev22 h
            refine lv_iconst (v := 2) hx hb dX3_kindsWith_51 (by decide) ?_
            refine lv_iload hx hb dX3_kindsWith_52 (lv_at hl 1 rfl) ?_
            refine lv_imul hx hb dX3_kindsWith_54 ?_
            refine lv_iload_n hx hb dX3_kindsWith_55 rfl (lv_at hl 3 rfl) ?_
            have hn23 : ¬ a0 = 0 := fun hz => absurd ((if_pos hz).symm.trans h) (fun hh => nomatch hh)
            replace h := (if_neg hn23).symm.trans h
            refine lv_irem hx hb dX3_kindsWith_56 hn23 ?_
            refine lv_topi (fun v24 ev24 => ?_)
            replace h := mi_use ev24 h
            obtain ⟨r25, hr25, h⟩ := Option.bind_eq_some_iff.mp h
            have hPc := hP.sub (ws' := [(h0, .inr (3, [.ref h0_roots, .ref h0_strides, .ref h0_halvesFound])), (h0_roots, .inr (1, [.ref h0_roots_least, .int x14])), (h0_roots_least, .inl (k_t_roots_least, 10007, .inl x15))]) [0, 1, 2] rfl
            have hDc := hD.sub (ws' := [(h0, .inr (3, [.ref h0_roots, .ref h0_strides, .ref h0_halvesFound])), (h0_roots, .inr (1, [.ref h0_roots_least, .int x14])), (h0_roots_least, .inl (k_t_roots_least, 10007, .inl x15))]) [0, 1, 2] (by decide) rfl
            have hKc := hK.sub (tys' := [(k_t_roots_least, .int)]) [0] rfl
            have hFc := va_free (wc := [(h0, .inr (3, [.ref h0_roots, .ref h0_strides, .ref h0_halvesFound])), (h0_roots, .inr (1, [.ref h0_roots_least, .int x14])), (h0_roots_least, .inl (k_t_roots_least, 10007, .inl x15))]) hD hS hA0 [0, 1, 2] rfl
            refine va_calli (va_runV (As := [.int a0, .int v22, .int v24]) (rest := []) ⟨hx, hb, hml, hown, hts⟩ (ctX3_manyPoints l N dC dI _ h0 h0_roots h0_roots_least h0_strides h0_halvesFound k_t_roots_least x14 x15 a0 v22 v24 r25 hr25) (cwV 3 hts gX3_kindsWith_X3_manyPoints rfl rfl rfl (by decide +kernel) ⟨Nat.le_of_ble_eq_true rfl, Nat.le_of_ble_eq_true rfl⟩) ⟨fun a U g mk q => by obtain ⟨q0, q1, qP, qK, qN, qD⟩ := q; exact ⟨q0, q1, qP, va_K.moved (u := U) (U := U.calling g mk a) (Vm.Alike.refl U.vm) qK, nw_same (u := U) (U := U.calling g mk a) rfl qN, qD⟩, va_recv hKc hPc (ci := 3) (q0 := 0) rfl rfl, fun U hU hW => ⟨rfl, by rw [hU], by rw [hU]; exact hPc, va_K.moved hW.alike hKc, nw_warm hW hN, hDc.weaken (fun _ _ _ _ => trivial)⟩⟩ rfl rfl hl.1 rfl (lv_room (Nat.le_of_ble_eq_true rfl)) dX3_kindsWith_57 ⟨Nat.le_of_ble_eq_true rfl, Nat.le_of_ble_eq_true rfl⟩) hS (fun q _ h => hFc q h) hFc (fun rz u t H1 locs ht hvm hw hB1 hz1 hk1 hS => ?_)
            obtain ⟨u26, f27⟩ := u
            obtain ⟨hP1, hK1, hD1⟩ := hB1
            rw [ht] at hP1
            have hK1 := va_K.moved hvm.symm hK1
            obtain ⟨r28, rfl⟩ : ∃ z, z = rz := ⟨_, rfl⟩
            subst hw
            try dsimp only at h
            obtain ⟨hP, hD⟩ := va_join (wr := []) (w1 := [(h0, .inr (3, [.ref h0_roots, .ref h0_strides, .ref h0_halvesFound])), (h0_roots, .inr (1, [.ref h0_roots_least, .int u26])), (h0_roots_least, .inl (k_t_roots_least, 10007, .inl f27))]) hP hD [0, 1, 2] [] rfl rfl (by decide) (by decide) hk1 hFc hP1 hD1
            generalize H1 = H at hP hS ⊢
            have hP := hP.sub (ws' := [(h0, .inr (3, [.ref h0_roots, .ref h0_strides, .ref h0_halvesFound])), (h0_roots, .inr (1, [.ref h0_roots_least, .int u26])), (h0_roots_least, .inl (k_t_roots_least, 10007, .inl f27))]) [0, 1, 2] rfl
            have hD := hD.sub (ws' := [(h0, .inr (3, [.ref h0_roots, .ref h0_strides, .ref h0_halvesFound])), (h0_roots, .inr (1, [.ref h0_roots_least, .int u26])), (h0_roots_least, .inl (k_t_roots_least, 10007, .inl f27))]) [0, 1, 2] (by decide) rfl
            refine lv_istore (lv' := [(5, .int r28), (3, .int x12), (4, .int x13), (0, .ref h0), (1, .int a0), (2, .int a1)]) hx hb dX3_kindsWith_60 hl (by decide) rfl (fun ls hl => ?_)
            refine lv_iload_n hx hb dX3_kindsWith_62 rfl (lv_at hl 1 rfl) ?_
            refine lv_iload hx hb dX3_kindsWith_63 (lv_at hl 0 rfl) ?_
            refine lv_iload_n hx hb dX3_kindsWith_65 rfl (lv_at hl 5 rfl) ?_
            refine lv_icmp_eq (tgt := 81) hx hb dX3_kindsWith_66 (by decide) (fun c29 => ?_) (fun c29 => ?_)
            · replace h := (if_pos c29).symm.trans h
              refine lv_iconst (v := 1) hx hb dX3_kindsWith_81 (by decide) ?_
              refine lv_goto (tgt := 86) hx hb dX3_kindsWith_82 (by decide) ?_
              refine lv_iadd hx hb dX3_kindsWith_86 ?_
              refine lv_topi (fun v30 ev30 => ?_)
              replace h := mi_use ev30 h
              refine lv_istore_n (lv' := [(3, .int v30), (5, .int r28), (4, .int x13), (0, .ref h0), (1, .int a0), (2, .int a1)]) hx hb dX3_kindsWith_87 rfl hl (by decide) rfl (fun ls hl => ?_)
              obtain ⟨v31, ev31⟩ : ∃ z : Int32, z = x13 + 1 := ⟨_, rfl⟩
              refine lv_iinc (v := v31) (lv' := [(4, .int v31), (3, .int v30), (5, .int r28), (0, .ref h0), (1, .int a0), (2, .int a1)]) hx hb dX3_kindsWith_88 hl (k := 2) rfl (by rw [ev31]; rfl) (by decide) rfl (fun ls hl => ?_)
              replace h := mi_use ev31 h
              refine lv_goto (tgt := 35) hx hb dX3_kindsWith_91 (by decide) ?_
              exact ih _ _ _ _ _ (hA _ (Option.some.inj h).symm) hkE _ _ ls hP hD hS (lv_sub hl [1, 0, 3, 4, 5] rfl)
            · replace h := (if_neg c29).symm.trans h
              refine lv_iconst (v := 2) hx hb dX3_kindsWith_69 (by decide) ?_
              refine lv_iload_n hx hb dX3_kindsWith_70 rfl (lv_at hl 4 rfl) ?_
              refine lv_imul hx hb dX3_kindsWith_71 ?_
              refine lv_iconst (v := 2) hx hb dX3_kindsWith_72 (by decide) ?_
              refine lv_iadd hx hb dX3_kindsWith_73 ?_
              refine lv_iload hx hb dX3_kindsWith_74 (lv_at hl 0 rfl) ?_
              refine lv_isub hx hb dX3_kindsWith_76 ?_
              refine lv_iload_n hx hb dX3_kindsWith_77 rfl (lv_at hl 5 rfl) ?_
              refine lv_icmp_ne (tgt := 85) hx hb dX3_kindsWith_78 (by decide) (fun c32 => ?_) (fun c32 => ?_)
              · replace h := (if_neg c32).symm.trans h
                refine lv_iconst (v := 0) hx hb dX3_kindsWith_85 (by decide) ?_
                refine lv_iadd hx hb dX3_kindsWith_86 ?_
                refine lv_topi (fun v33 ev33 => ?_)
                replace h := mi_use ev33 h
                refine lv_istore_n (lv' := [(3, .int v33), (5, .int r28), (4, .int x13), (0, .ref h0), (1, .int a0), (2, .int a1)]) hx hb dX3_kindsWith_87 rfl hl (by decide) rfl (fun ls hl => ?_)
                obtain ⟨v34, ev34⟩ : ∃ z : Int32, z = x13 + 1 := ⟨_, rfl⟩
                refine lv_iinc (v := v34) (lv' := [(4, .int v34), (3, .int v33), (5, .int r28), (0, .ref h0), (1, .int a0), (2, .int a1)]) hx hb dX3_kindsWith_88 hl (k := 2) rfl (by rw [ev34]; rfl) (by decide) rfl (fun ls hl => ?_)
                replace h := mi_use ev34 h
                refine lv_goto (tgt := 35) hx hb dX3_kindsWith_91 (by decide) ?_
                exact ih _ _ _ _ _ (hA _ (Option.some.inj h).symm) hkE _ _ ls hP hD hS (lv_sub hl [1, 0, 3, 4, 5] rfl)
              · replace h := (if_pos c32).symm.trans h
                refine lv_iconst (v := 1) hx hb dX3_kindsWith_81 (by decide) ?_
                refine lv_goto (tgt := 86) hx hb dX3_kindsWith_82 (by decide) ?_
                refine lv_iadd hx hb dX3_kindsWith_86 ?_
                refine lv_topi (fun v35 ev35 => ?_)
                replace h := mi_use ev35 h
                refine lv_istore_n (lv' := [(3, .int v35), (5, .int r28), (4, .int x13), (0, .ref h0), (1, .int a0), (2, .int a1)]) hx hb dX3_kindsWith_87 rfl hl (by decide) rfl (fun ls hl => ?_)
                obtain ⟨v36, ev36⟩ : ∃ z : Int32, z = x13 + 1 := ⟨_, rfl⟩
                refine lv_iinc (v := v36) (lv' := [(4, .int v36), (3, .int v35), (5, .int r28), (0, .ref h0), (1, .int a0), (2, .int a1)]) hx hb dX3_kindsWith_88 hl (k := 2) rfl (by rw [ev36]; rfl) (by decide) rfl (fun ls hl => ?_)
                replace h := mi_use ev36 h
                refine lv_goto (tgt := 35) hx hb dX3_kindsWith_91 (by decide) ?_
                exact ih _ _ _ _ _ (hA _ (Option.some.inj h).symm) hkE _ _ ls hP hD hS (lv_sub hl [1, 0, 3, 4, 5] rfl)
      obtain ⟨o37, ho37, h⟩ := Option.bind_eq_some_iff.mp h
      refine L35 N _ _ _ _ o37 ho37 ?_ _ _ ls hP hD hS (lv_sub hl [1, 0, 2, 3, 4] rfl)
      intro y16 y17 y18 y19 eo H locs ls hP hD hS hl
      subst eo
      try dsimp only at h
      refine lv_iload_n hx hb dX3_kindsWith_94 rfl (lv_at hl 0 rfl) ?_
      have hv : (y16, y18, y19) = rr := Option.some.inj h
      have hP9 := hP.sub (ws' := [(h0, .inr (3, [.ref h0_roots, .ref h0_strides, .ref h0_halvesFound])), (h0_roots, .inr (1, [.ref h0_roots_least, .int y18])), (h0_roots_least, .inl (k_t_roots_least, 10007, .inl y19))]) [0, 1, 2] rfl
      have hD9 := hD.sub (ws' := [(h0, .inr (3, [.ref h0_roots, .ref h0_strides, .ref h0_halvesFound])), (h0_roots, .inr (1, [.ref h0_roots_least, .int y18])), (h0_roots_least, .inl (k_t_roots_least, 10007, .inl y19))]) [0, 1, 2] (by decide) rfl
      have hK9 := hK.sub (tys' := [(k_t_roots_least, .int)]) [0] rfl
      exact W.iret (v := y16) hx hb hr (fun t ht hW => ⟨⟨y16, (y18, y19), rfl, hv, by rw [ht]; exact hP9, va_K.moved hW.alike hK9, hD9⟩, hS.F ht⟩) hS.2.2 dX3_kindsWith_95
    · replace h := (if_neg c10).symm.trans h
      refine lv_iconst (v := 1) hx hb dX3_kindsWith_25 (by decide) ?_
      refine lv_goto (tgt := 30) hx hb dX3_kindsWith_26 (by decide) ?_
      refine lv_iadd hx hb dX3_kindsWith_30 ?_
      refine lv_topi (fun v38 ev38 => ?_)
      replace h := mi_use ev38 h
      refine lv_istore_n (lv' := [(3, .int v38), (0, .ref h0), (1, .int a0), (2, .int a1)]) hx hb dX3_kindsWith_31 rfl hl (by decide) rfl (fun ls hl => ?_)
      refine lv_iconst (v := 1) hx hb dX3_kindsWith_32 (by decide) ?_
      refine lv_istore (lv' := [(4, .int 1), (3, .int v38), (0, .ref h0), (1, .int a0), (2, .int a1)]) hx hb dX3_kindsWith_33 hl (by decide) rfl (fun ls hl => ?_)
      have L35 : ∀ (n : Nat) (x39 : Int32) (x40 : Int32) (x41 : Int32) (x42 : Nat → Int32) (o : Int32 × Int32 × Int32 × (Nat → Int32)), mi_run (mX3_kindsWith_b35 N a0 a1) n (x39, x40, x41, x42) = some o → (∀ (y43 : Int32) (y44 : Int32) (y45 : Int32) (y46 : Nat → Int32), o = (y43, y44, y45, y46) → ∀ (H : Heap) (locs : List Loc) (ls : Array Slot), va_P (dC, dI) vwCl [(h0, .inr (3, [.ref h0_roots, .ref h0_strides, .ref h0_halvesFound])), (h0_roots, .inr (1, [.ref h0_roots_least, .int y45])), (h0_roots_least, .inl (k_t_roots_least, 10007, .inl y46))] H → va_D A [(h0, .inr (3, [.ref h0_roots, .ref h0_strides, .ref h0_halvesFound])), (h0_roots, .inr (1, [.ref h0_roots_least, .int y45])), (h0_roots_least, .inl (k_t_roots_least, 10007, .inl y46))] → va_S A s.heap H locs → lv_has ls 6 [(3, .int y43), (4, .int y44), (0, .ref h0), (1, .int a0), (2, .int a1)] → W p l e (headSpec wsX3_kindsWith rmX3_kindsWith).room s m (([.ref h0, .int a0, .int a1] : List Value).toArray) below meth c H locs 0 0 (MQ below (va_Qi (fun (r : Int32) (u : Int32 × (Nat → Int32)) => (r, u) = rr) (fun (u : Int32 × (Nat → Int32)) t => match u with | (u0, u1) => va_P (dC, dI) vwCl [(h0, .inr (3, [.ref h0_roots, .ref h0_strides, .ref h0_halvesFound])), (h0_roots, .inr (1, [.ref h0_roots_least, .int u0])), (h0_roots_least, .inl (k_t_roots_least, 10007, .inl u1))] t.heap ∧ va_K (dC, dI) vwCl [(k_t_roots_least, .int)] t ∧ va_D (A) [(h0, .inr (3, [.ref h0_roots, .ref h0_strides, .ref h0_halvesFound])), (h0_roots, .inr (1, [.ref h0_roots_least, .int u0])), (h0_roots_least, .inl (k_t_roots_least, 10007, .inl u1))]) (A)) (([.ref h0, .int a0, .int a1] : List Value).toArray) s 0 0 A) (F0 m 94 ls [])) → ∀ (H : Heap) (locs : List Loc) (ls : Array Slot), va_P (dC, dI) vwCl [(h0, .inr (3, [.ref h0_roots, .ref h0_strides, .ref h0_halvesFound])), (h0_roots, .inr (1, [.ref h0_roots_least, .int x41])), (h0_roots_least, .inl (k_t_roots_least, 10007, .inl x42))] H → va_D A [(h0, .inr (3, [.ref h0_roots, .ref h0_strides, .ref h0_halvesFound])), (h0_roots, .inr (1, [.ref h0_roots_least, .int x41])), (h0_roots_least, .inl (k_t_roots_least, 10007, .inl x42))] → va_S A s.heap H locs → lv_has ls 6 [(3, .int x39), (4, .int x40), (0, .ref h0), (1, .int a0), (2, .int a1)] → W p l e (headSpec wsX3_kindsWith rmX3_kindsWith).room s m (([.ref h0, .int a0, .int a1] : List Value).toArray) below meth c H locs 0 0 (MQ below (va_Qi (fun (r : Int32) (u : Int32 × (Nat → Int32)) => (r, u) = rr) (fun (u : Int32 × (Nat → Int32)) t => match u with | (u0, u1) => va_P (dC, dI) vwCl [(h0, .inr (3, [.ref h0_roots, .ref h0_strides, .ref h0_halvesFound])), (h0_roots, .inr (1, [.ref h0_roots_least, .int u0])), (h0_roots_least, .inl (k_t_roots_least, 10007, .inl u1))] t.heap ∧ va_K (dC, dI) vwCl [(k_t_roots_least, .int)] t ∧ va_D (A) [(h0, .inr (3, [.ref h0_roots, .ref h0_strides, .ref h0_halvesFound])), (h0_roots, .inr (1, [.ref h0_roots_least, .int u0])), (h0_roots_least, .inl (k_t_roots_least, 10007, .inl u1))]) (A)) (([.ref h0, .int a0, .int a1] : List Value).toArray) s 0 0 A) (F0 m 35 ls []) := by
        intro n
        induction n with
        | zero => intro x39 x40 x41 x42 o h; exact absurd h (mi_run_0 _ _ _)
        | succ n ih =>
          intro x39 x40 x41 x42 o h hkE H locs ls hP hD hS hl
          obtain ⟨w, h, hA, hB⟩ := mi_run_s h
          dsimp only [mX3_kindsWith_b35] at h
          refine lv_iload hx hb dX3_kindsWith_35 (lv_at hl 1 rfl) ?_
          refine lv_iload_n hx hb dX3_kindsWith_37 rfl (lv_at hl 3 rfl) ?_
          refine lv_iconst (v := 1) hx hb dX3_kindsWith_38 (by decide) ?_
          refine lv_isub hx hb dX3_kindsWith_39 ?_
          refine lv_icmp_ge (tgt := 94) hx hb dX3_kindsWith_40 (by decide) (fun c47 => ?_) (fun c47 => ?_)
          · replace h := (if_pos c47).symm.trans h
            exact hkE _ _ _ _ (hB _ (Option.some.inj h).symm) _ _ ls hP hD hS (lv_sub hl [0, 1, 2, 3, 4] rfl)
          · replace h := (if_neg c47).symm.trans h
            refine lv_aload_n hx hb dX3_kindsWith_43 rfl (lv_at hl 2 rfl) ?_
            refine lv_iload_n hx hb dX3_kindsWith_44 rfl (lv_at hl 3 rfl) ?_
            refine lv_iconst (v := 3) hx hb dX3_kindsWith_45 (by decide) ?_
            refine lv_iload hx hb dX3_kindsWith_46 (lv_at hl 1 rfl) ?_
            refine lv_imul hx hb dX3_kindsWith_48 ?_
            refine lv_iload_n hx hb dX3_kindsWith_49 rfl (lv_at hl 3 rfl) ?_
            have hn48 : ¬ a0 = 0 := fun hz => absurd ((if_pos hz).symm.trans h) (fun hh => nomatch hh)
            replace h := (if_neg hn48).symm.trans h
            refine lv_irem hx hb dX3_kindsWith_50 hn48 ?_
            refine lv_topi (fun v49 ev49 => ?_)
            replace h := mi_use ev49 h
            refine lv_iconst (v := 2) hx hb dX3_kindsWith_51 (by decide) ?_
            refine lv_iload hx hb dX3_kindsWith_52 (lv_at hl 1 rfl) ?_
            refine lv_imul hx hb dX3_kindsWith_54 ?_
            refine lv_iload_n hx hb dX3_kindsWith_55 rfl (lv_at hl 3 rfl) ?_
            have hn50 : ¬ a0 = 0 := fun hz => absurd ((if_pos hz).symm.trans h) (fun hh => nomatch hh)
            replace h := (if_neg hn50).symm.trans h
            refine lv_irem hx hb dX3_kindsWith_56 hn50 ?_
            refine lv_topi (fun v51 ev51 => ?_)
            replace h := mi_use ev51 h
            obtain ⟨r52, hr52, h⟩ := Option.bind_eq_some_iff.mp h
            have hPc := hP.sub (ws' := [(h0, .inr (3, [.ref h0_roots, .ref h0_strides, .ref h0_halvesFound])), (h0_roots, .inr (1, [.ref h0_roots_least, .int x41])), (h0_roots_least, .inl (k_t_roots_least, 10007, .inl x42))]) [0, 1, 2] rfl
            have hDc := hD.sub (ws' := [(h0, .inr (3, [.ref h0_roots, .ref h0_strides, .ref h0_halvesFound])), (h0_roots, .inr (1, [.ref h0_roots_least, .int x41])), (h0_roots_least, .inl (k_t_roots_least, 10007, .inl x42))]) [0, 1, 2] (by decide) rfl
            have hKc := hK.sub (tys' := [(k_t_roots_least, .int)]) [0] rfl
            have hFc := va_free (wc := [(h0, .inr (3, [.ref h0_roots, .ref h0_strides, .ref h0_halvesFound])), (h0_roots, .inr (1, [.ref h0_roots_least, .int x41])), (h0_roots_least, .inl (k_t_roots_least, 10007, .inl x42))]) hD hS hA0 [0, 1, 2] rfl
            refine va_calli (va_runV (As := [.int a0, .int v49, .int v51]) (rest := []) ⟨hx, hb, hml, hown, hts⟩ (ctX3_manyPoints l N dC dI _ h0 h0_roots h0_roots_least h0_strides h0_halvesFound k_t_roots_least x41 x42 a0 v49 v51 r52 hr52) (cwV 3 hts gX3_kindsWith_X3_manyPoints rfl rfl rfl (by decide +kernel) ⟨Nat.le_of_ble_eq_true rfl, Nat.le_of_ble_eq_true rfl⟩) ⟨fun a U g mk q => by obtain ⟨q0, q1, qP, qK, qN, qD⟩ := q; exact ⟨q0, q1, qP, va_K.moved (u := U) (U := U.calling g mk a) (Vm.Alike.refl U.vm) qK, nw_same (u := U) (U := U.calling g mk a) rfl qN, qD⟩, va_recv hKc hPc (ci := 3) (q0 := 0) rfl rfl, fun U hU hW => ⟨rfl, by rw [hU], by rw [hU]; exact hPc, va_K.moved hW.alike hKc, nw_warm hW hN, hDc.weaken (fun _ _ _ _ => trivial)⟩⟩ rfl rfl hl.1 rfl (lv_room (Nat.le_of_ble_eq_true rfl)) dX3_kindsWith_57 ⟨Nat.le_of_ble_eq_true rfl, Nat.le_of_ble_eq_true rfl⟩) hS (fun q _ h => hFc q h) hFc (fun rz u t H1 locs ht hvm hw hB1 hz1 hk1 hS => ?_)
            obtain ⟨u53, f54⟩ := u
            obtain ⟨hP1, hK1, hD1⟩ := hB1
            rw [ht] at hP1
            have hK1 := va_K.moved hvm.symm hK1
            obtain ⟨r55, rfl⟩ : ∃ z, z = rz := ⟨_, rfl⟩
            subst hw
            try dsimp only at h
            obtain ⟨hP, hD⟩ := va_join (wr := []) (w1 := [(h0, .inr (3, [.ref h0_roots, .ref h0_strides, .ref h0_halvesFound])), (h0_roots, .inr (1, [.ref h0_roots_least, .int u53])), (h0_roots_least, .inl (k_t_roots_least, 10007, .inl f54))]) hP hD [0, 1, 2] [] rfl rfl (by decide) (by decide) hk1 hFc hP1 hD1
            generalize H1 = H at hP hS ⊢
            have hP := hP.sub (ws' := [(h0, .inr (3, [.ref h0_roots, .ref h0_strides, .ref h0_halvesFound])), (h0_roots, .inr (1, [.ref h0_roots_least, .int u53])), (h0_roots_least, .inl (k_t_roots_least, 10007, .inl f54))]) [0, 1, 2] rfl
            have hD := hD.sub (ws' := [(h0, .inr (3, [.ref h0_roots, .ref h0_strides, .ref h0_halvesFound])), (h0_roots, .inr (1, [.ref h0_roots_least, .int u53])), (h0_roots_least, .inl (k_t_roots_least, 10007, .inl f54))]) [0, 1, 2] (by decide) rfl
            refine lv_istore (lv' := [(5, .int r55), (3, .int x39), (4, .int x40), (0, .ref h0), (1, .int a0), (2, .int a1)]) hx hb dX3_kindsWith_60 hl (by decide) rfl (fun ls hl => ?_)
            refine lv_iload_n hx hb dX3_kindsWith_62 rfl (lv_at hl 1 rfl) ?_
            refine lv_iload hx hb dX3_kindsWith_63 (lv_at hl 0 rfl) ?_
            refine lv_iload_n hx hb dX3_kindsWith_65 rfl (lv_at hl 5 rfl) ?_
            refine lv_icmp_eq (tgt := 81) hx hb dX3_kindsWith_66 (by decide) (fun c56 => ?_) (fun c56 => ?_)
            · replace h := (if_pos c56).symm.trans h
              refine lv_iconst (v := 1) hx hb dX3_kindsWith_81 (by decide) ?_
              refine lv_goto (tgt := 86) hx hb dX3_kindsWith_82 (by decide) ?_
              refine lv_iadd hx hb dX3_kindsWith_86 ?_
              refine lv_topi (fun v57 ev57 => ?_)
              replace h := mi_use ev57 h
              refine lv_istore_n (lv' := [(3, .int v57), (5, .int r55), (4, .int x40), (0, .ref h0), (1, .int a0), (2, .int a1)]) hx hb dX3_kindsWith_87 rfl hl (by decide) rfl (fun ls hl => ?_)
              obtain ⟨v58, ev58⟩ : ∃ z : Int32, z = x40 + 1 := ⟨_, rfl⟩
              refine lv_iinc (v := v58) (lv' := [(4, .int v58), (3, .int v57), (5, .int r55), (0, .ref h0), (1, .int a0), (2, .int a1)]) hx hb dX3_kindsWith_88 hl (k := 2) rfl (by rw [ev58]; rfl) (by decide) rfl (fun ls hl => ?_)
              replace h := mi_use ev58 h
              refine lv_goto (tgt := 35) hx hb dX3_kindsWith_91 (by decide) ?_
              exact ih _ _ _ _ _ (hA _ (Option.some.inj h).symm) hkE _ _ ls hP hD hS (lv_sub hl [1, 0, 3, 4, 5] rfl)
            · replace h := (if_neg c56).symm.trans h
              refine lv_iconst (v := 2) hx hb dX3_kindsWith_69 (by decide) ?_
              refine lv_iload_n hx hb dX3_kindsWith_70 rfl (lv_at hl 4 rfl) ?_
              refine lv_imul hx hb dX3_kindsWith_71 ?_
              refine lv_iconst (v := 2) hx hb dX3_kindsWith_72 (by decide) ?_
              refine lv_iadd hx hb dX3_kindsWith_73 ?_
              refine lv_iload hx hb dX3_kindsWith_74 (lv_at hl 0 rfl) ?_
              refine lv_isub hx hb dX3_kindsWith_76 ?_
              refine lv_iload_n hx hb dX3_kindsWith_77 rfl (lv_at hl 5 rfl) ?_
              refine lv_icmp_ne (tgt := 85) hx hb dX3_kindsWith_78 (by decide) (fun c59 => ?_) (fun c59 => ?_)
              · replace h := (if_neg c59).symm.trans h
                refine lv_iconst (v := 0) hx hb dX3_kindsWith_85 (by decide) ?_
                refine lv_iadd hx hb dX3_kindsWith_86 ?_
                refine lv_topi (fun v60 ev60 => ?_)
                replace h := mi_use ev60 h
                refine lv_istore_n (lv' := [(3, .int v60), (5, .int r55), (4, .int x40), (0, .ref h0), (1, .int a0), (2, .int a1)]) hx hb dX3_kindsWith_87 rfl hl (by decide) rfl (fun ls hl => ?_)
                obtain ⟨v61, ev61⟩ : ∃ z : Int32, z = x40 + 1 := ⟨_, rfl⟩
                refine lv_iinc (v := v61) (lv' := [(4, .int v61), (3, .int v60), (5, .int r55), (0, .ref h0), (1, .int a0), (2, .int a1)]) hx hb dX3_kindsWith_88 hl (k := 2) rfl (by rw [ev61]; rfl) (by decide) rfl (fun ls hl => ?_)
                replace h := mi_use ev61 h
                refine lv_goto (tgt := 35) hx hb dX3_kindsWith_91 (by decide) ?_
                exact ih _ _ _ _ _ (hA _ (Option.some.inj h).symm) hkE _ _ ls hP hD hS (lv_sub hl [1, 0, 3, 4, 5] rfl)
              · replace h := (if_pos c59).symm.trans h
                refine lv_iconst (v := 1) hx hb dX3_kindsWith_81 (by decide) ?_
                refine lv_goto (tgt := 86) hx hb dX3_kindsWith_82 (by decide) ?_
                refine lv_iadd hx hb dX3_kindsWith_86 ?_
                refine lv_topi (fun v62 ev62 => ?_)
                replace h := mi_use ev62 h
                refine lv_istore_n (lv' := [(3, .int v62), (5, .int r55), (4, .int x40), (0, .ref h0), (1, .int a0), (2, .int a1)]) hx hb dX3_kindsWith_87 rfl hl (by decide) rfl (fun ls hl => ?_)
                obtain ⟨v63, ev63⟩ : ∃ z : Int32, z = x40 + 1 := ⟨_, rfl⟩
                refine lv_iinc (v := v63) (lv' := [(4, .int v63), (3, .int v62), (5, .int r55), (0, .ref h0), (1, .int a0), (2, .int a1)]) hx hb dX3_kindsWith_88 hl (k := 2) rfl (by rw [ev63]; rfl) (by decide) rfl (fun ls hl => ?_)
                replace h := mi_use ev63 h
                refine lv_goto (tgt := 35) hx hb dX3_kindsWith_91 (by decide) ?_
                exact ih _ _ _ _ _ (hA _ (Option.some.inj h).symm) hkE _ _ ls hP hD hS (lv_sub hl [1, 0, 3, 4, 5] rfl)
      obtain ⟨o64, ho64, h⟩ := Option.bind_eq_some_iff.mp h
      refine L35 N _ _ _ _ o64 ho64 ?_ _ _ ls hP hD hS (lv_sub hl [1, 0, 2, 3, 4] rfl)
      intro y43 y44 y45 y46 eo H locs ls hP hD hS hl
      subst eo
      try dsimp only at h
      refine lv_iload_n hx hb dX3_kindsWith_94 rfl (lv_at hl 0 rfl) ?_
      have hv : (y43, y45, y46) = rr := Option.some.inj h
      have hP9 := hP.sub (ws' := [(h0, .inr (3, [.ref h0_roots, .ref h0_strides, .ref h0_halvesFound])), (h0_roots, .inr (1, [.ref h0_roots_least, .int y45])), (h0_roots_least, .inl (k_t_roots_least, 10007, .inl y46))]) [0, 1, 2] rfl
      have hD9 := hD.sub (ws' := [(h0, .inr (3, [.ref h0_roots, .ref h0_strides, .ref h0_halvesFound])), (h0_roots, .inr (1, [.ref h0_roots_least, .int y45])), (h0_roots_least, .inl (k_t_roots_least, 10007, .inl y46))]) [0, 1, 2] (by decide) rfl
      have hK9 := hK.sub (tys' := [(k_t_roots_least, .int)]) [0] rfl
      exact W.iret (v := y43) hx hb hr (fun t ht hW => ⟨⟨y43, (y45, y46), rfl, hv, by rw [ht]; exact hP9, va_K.moved hW.alike hK9, hD9⟩, hS.F ht⟩) hS.2.2 dX3_kindsWith_95
  · replace h := (if_neg c5).symm.trans h
    refine lv_iconst (v := 1) hx hb dX3_kindsWith_9 (by decide) ?_
    refine lv_goto (tgt := 14) hx hb dX3_kindsWith_10 (by decide) ?_
    refine lv_istore_n (lv' := [(3, .int 1), (0, .ref h0), (1, .int a0), (2, .int a1)]) hx hb dX3_kindsWith_14 rfl hl (by decide) rfl (fun ls hl => ?_)
    refine lv_iload_n hx hb dX3_kindsWith_15 rfl (lv_at hl 0 rfl) ?_
    refine lv_aload_n hx hb dX3_kindsWith_16 rfl (lv_at hl 1 rfl) ?_
    refine lv_iload_n hx hb dX3_kindsWith_17 rfl (lv_at hl 2 rfl) ?_
    refine lv_iload_n hx hb dX3_kindsWith_18 rfl (lv_at hl 3 rfl) ?_
    obtain ⟨r65, hr65, h⟩ := Option.bind_eq_some_iff.mp h
    have hPc := hP.sub (ws' := [(h0, .inr (3, [.ref h0_roots, .ref h0_strides, .ref h0_halvesFound])), (h0_roots, .inr (1, [.ref h0_roots_least, .int u2])), (h0_roots_least, .inl (k_t_roots_least, 10007, .inl f3))]) [0, 1, 2] rfl
    have hDc := hD.sub (ws' := [(h0, .inr (3, [.ref h0_roots, .ref h0_strides, .ref h0_halvesFound])), (h0_roots, .inr (1, [.ref h0_roots_least, .int u2])), (h0_roots_least, .inl (k_t_roots_least, 10007, .inl f3))]) [0, 1, 2] (by decide) rfl
    have hKc := hK.sub (tys' := [(k_t_roots_least, .int)]) [0] rfl
    have hFc := va_free (wc := [(h0, .inr (3, [.ref h0_roots, .ref h0_strides, .ref h0_halvesFound])), (h0_roots, .inr (1, [.ref h0_roots_least, .int u2])), (h0_roots_least, .inl (k_t_roots_least, 10007, .inl f3))]) hD hS hA0 [0, 1, 2] rfl
    refine va_calli (va_runV (As := [.int a0, .int a1]) (rest := [.int 1]) ⟨hx, hb, hml, hown, hts⟩ (ctX3_manyWithoutB l N dC dI _ h0 h0_roots h0_roots_least h0_strides h0_halvesFound k_t_roots_least u2 f3 a0 a1 r65 hr65) (cwV 2 hts gX3_kindsWith_X3_manyWithoutB rfl rfl rfl (by decide +kernel) ⟨Nat.le_of_ble_eq_true rfl, Nat.le_of_ble_eq_true rfl⟩) ⟨fun a U g mk q => by obtain ⟨q0, q1, qP, qK, qN, qD⟩ := q; exact ⟨q0, q1, qP, va_K.moved (u := U) (U := U.calling g mk a) (Vm.Alike.refl U.vm) qK, nw_same (u := U) (U := U.calling g mk a) rfl qN, qD⟩, va_recv hKc hPc (ci := 3) (q0 := 0) rfl rfl, fun U hU hW => ⟨rfl, by rw [hU], by rw [hU]; exact hPc, va_K.moved hW.alike hKc, nw_warm hW hN, hDc.weaken (fun _ _ _ _ => trivial)⟩⟩ rfl rfl hl.1 rfl (lv_room (Nat.le_of_ble_eq_true rfl)) dX3_kindsWith_19 ⟨Nat.le_of_ble_eq_true rfl, Nat.le_of_ble_eq_true rfl⟩) hS (fun q _ h => hFc q h) hFc (fun rz u t H1 locs ht hvm hw hB1 hz1 hk1 hS => ?_)
    obtain ⟨u66, f67⟩ := u
    obtain ⟨hP1, hK1, hD1⟩ := hB1
    rw [ht] at hP1
    have hK1 := va_K.moved hvm.symm hK1
    obtain ⟨r68, rfl⟩ : ∃ z, z = rz := ⟨_, rfl⟩
    subst hw
    try dsimp only at h
    obtain ⟨hP, hD⟩ := va_join (wr := []) (w1 := [(h0, .inr (3, [.ref h0_roots, .ref h0_strides, .ref h0_halvesFound])), (h0_roots, .inr (1, [.ref h0_roots_least, .int u66])), (h0_roots_least, .inl (k_t_roots_least, 10007, .inl f67))]) hP hD [0, 1, 2] [] rfl rfl (by decide) (by decide) hk1 hFc hP1 hD1
    generalize H1 = H at hP hS ⊢
    have hP := hP.sub (ws' := [(h0, .inr (3, [.ref h0_roots, .ref h0_strides, .ref h0_halvesFound])), (h0_roots, .inr (1, [.ref h0_roots_least, .int u66])), (h0_roots_least, .inl (k_t_roots_least, 10007, .inl f67))]) [0, 1, 2] rfl
    have hD := hD.sub (ws' := [(h0, .inr (3, [.ref h0_roots, .ref h0_strides, .ref h0_halvesFound])), (h0_roots, .inr (1, [.ref h0_roots_least, .int u66])), (h0_roots_least, .inl (k_t_roots_least, 10007, .inl f67))]) [0, 1, 2] (by decide) rfl
    refine lv_if_le (tgt := 29) hx hb dX3_kindsWith_22 (by decide) (fun c69 => ?_) (fun c69 => ?_)
    · replace h := (if_pos c69).symm.trans h
      refine lv_iconst (v := 0) hx hb dX3_kindsWith_29 (by decide) ?_
      refine lv_iadd hx hb dX3_kindsWith_30 ?_
      refine lv_topi (fun v70 ev70 => ?_)
      replace h := mi_use ev70 h
      refine lv_istore_n (lv' := [(3, .int v70), (0, .ref h0), (1, .int a0), (2, .int a1)]) hx hb dX3_kindsWith_31 rfl hl (by decide) rfl (fun ls hl => ?_)
      refine lv_iconst (v := 1) hx hb dX3_kindsWith_32 (by decide) ?_
      refine lv_istore (lv' := [(4, .int 1), (3, .int v70), (0, .ref h0), (1, .int a0), (2, .int a1)]) hx hb dX3_kindsWith_33 hl (by decide) rfl (fun ls hl => ?_)
      have L35 : ∀ (n : Nat) (x71 : Int32) (x72 : Int32) (x73 : Int32) (x74 : Nat → Int32) (o : Int32 × Int32 × Int32 × (Nat → Int32)), mi_run (mX3_kindsWith_b35 N a0 a1) n (x71, x72, x73, x74) = some o → (∀ (y75 : Int32) (y76 : Int32) (y77 : Int32) (y78 : Nat → Int32), o = (y75, y76, y77, y78) → ∀ (H : Heap) (locs : List Loc) (ls : Array Slot), va_P (dC, dI) vwCl [(h0, .inr (3, [.ref h0_roots, .ref h0_strides, .ref h0_halvesFound])), (h0_roots, .inr (1, [.ref h0_roots_least, .int y77])), (h0_roots_least, .inl (k_t_roots_least, 10007, .inl y78))] H → va_D A [(h0, .inr (3, [.ref h0_roots, .ref h0_strides, .ref h0_halvesFound])), (h0_roots, .inr (1, [.ref h0_roots_least, .int y77])), (h0_roots_least, .inl (k_t_roots_least, 10007, .inl y78))] → va_S A s.heap H locs → lv_has ls 6 [(3, .int y75), (4, .int y76), (0, .ref h0), (1, .int a0), (2, .int a1)] → W p l e (headSpec wsX3_kindsWith rmX3_kindsWith).room s m (([.ref h0, .int a0, .int a1] : List Value).toArray) below meth c H locs 0 0 (MQ below (va_Qi (fun (r : Int32) (u : Int32 × (Nat → Int32)) => (r, u) = rr) (fun (u : Int32 × (Nat → Int32)) t => match u with | (u0, u1) => va_P (dC, dI) vwCl [(h0, .inr (3, [.ref h0_roots, .ref h0_strides, .ref h0_halvesFound])), (h0_roots, .inr (1, [.ref h0_roots_least, .int u0])), (h0_roots_least, .inl (k_t_roots_least, 10007, .inl u1))] t.heap ∧ va_K (dC, dI) vwCl [(k_t_roots_least, .int)] t ∧ va_D (A) [(h0, .inr (3, [.ref h0_roots, .ref h0_strides, .ref h0_halvesFound])), (h0_roots, .inr (1, [.ref h0_roots_least, .int u0])), (h0_roots_least, .inl (k_t_roots_least, 10007, .inl u1))]) (A)) (([.ref h0, .int a0, .int a1] : List Value).toArray) s 0 0 A) (F0 m 94 ls [])) → ∀ (H : Heap) (locs : List Loc) (ls : Array Slot), va_P (dC, dI) vwCl [(h0, .inr (3, [.ref h0_roots, .ref h0_strides, .ref h0_halvesFound])), (h0_roots, .inr (1, [.ref h0_roots_least, .int x73])), (h0_roots_least, .inl (k_t_roots_least, 10007, .inl x74))] H → va_D A [(h0, .inr (3, [.ref h0_roots, .ref h0_strides, .ref h0_halvesFound])), (h0_roots, .inr (1, [.ref h0_roots_least, .int x73])), (h0_roots_least, .inl (k_t_roots_least, 10007, .inl x74))] → va_S A s.heap H locs → lv_has ls 6 [(3, .int x71), (4, .int x72), (0, .ref h0), (1, .int a0), (2, .int a1)] → W p l e (headSpec wsX3_kindsWith rmX3_kindsWith).room s m (([.ref h0, .int a0, .int a1] : List Value).toArray) below meth c H locs 0 0 (MQ below (va_Qi (fun (r : Int32) (u : Int32 × (Nat → Int32)) => (r, u) = rr) (fun (u : Int32 × (Nat → Int32)) t => match u with | (u0, u1) => va_P (dC, dI) vwCl [(h0, .inr (3, [.ref h0_roots, .ref h0_strides, .ref h0_halvesFound])), (h0_roots, .inr (1, [.ref h0_roots_least, .int u0])), (h0_roots_least, .inl (k_t_roots_least, 10007, .inl u1))] t.heap ∧ va_K (dC, dI) vwCl [(k_t_roots_least, .int)] t ∧ va_D (A) [(h0, .inr (3, [.ref h0_roots, .ref h0_strides, .ref h0_halvesFound])), (h0_roots, .inr (1, [.ref h0_roots_least, .int u0])), (h0_roots_least, .inl (k_t_roots_least, 10007, .inl u1))]) (A)) (([.ref h0, .int a0, .int a1] : List Value).toArray) s 0 0 A) (F0 m 35 ls []) := by
        intro n
        induction n with
        | zero => intro x71 x72 x73 x74 o h; exact absurd h (mi_run_0 _ _ _)
        | succ n ih =>
          intro x71 x72 x73 x74 o h hkE H locs ls hP hD hS hl
          obtain ⟨w, h, hA, hB⟩ := mi_run_s h
          dsimp only [mX3_kindsWith_b35] at h
          refine lv_iload hx hb dX3_kindsWith_35 (lv_at hl 1 rfl) ?_
          refine lv_iload_n hx hb dX3_kindsWith_37 rfl (lv_at hl 3 rfl) ?_
          refine lv_iconst (v := 1) hx hb dX3_kindsWith_38 (by decide) ?_
          refine lv_isub hx hb dX3_kindsWith_39 ?_
          refine lv_icmp_ge (tgt := 94) hx hb dX3_kindsWith_40 (by decide) (fun c79 => ?_) (fun c79 => ?_)
          · replace h := (if_pos c79).symm.trans h
            exact hkE _ _ _ _ (hB _ (Option.some.inj h).symm) _ _ ls hP hD hS (lv_sub hl [0, 1, 2, 3, 4] rfl)
          · replace h := (if_neg c79).symm.trans h
            refine lv_aload_n hx hb dX3_kindsWith_43 rfl (lv_at hl 2 rfl) ?_
            refine lv_iload_n hx hb dX3_kindsWith_44 rfl (lv_at hl 3 rfl) ?_
            refine lv_iconst (v := 3) hx hb dX3_kindsWith_45 (by decide) ?_
            refine lv_iload hx hb dX3_kindsWith_46 (lv_at hl 1 rfl) ?_
            refine lv_imul hx hb dX3_kindsWith_48 ?_
            refine lv_iload_n hx hb dX3_kindsWith_49 rfl (lv_at hl 3 rfl) ?_
            have hn80 : ¬ a0 = 0 := fun hz => absurd ((if_pos hz).symm.trans h) (fun hh => nomatch hh)
            replace h := (if_neg hn80).symm.trans h
            refine lv_irem hx hb dX3_kindsWith_50 hn80 ?_
            refine lv_topi (fun v81 ev81 => ?_)
            replace h := mi_use ev81 h
            refine lv_iconst (v := 2) hx hb dX3_kindsWith_51 (by decide) ?_
            refine lv_iload hx hb dX3_kindsWith_52 (lv_at hl 1 rfl) ?_
            refine lv_imul hx hb dX3_kindsWith_54 ?_
            refine lv_iload_n hx hb dX3_kindsWith_55 rfl (lv_at hl 3 rfl) ?_
            have hn82 : ¬ a0 = 0 := fun hz => absurd ((if_pos hz).symm.trans h) (fun hh => nomatch hh)
            replace h := (if_neg hn82).symm.trans h
            refine lv_irem hx hb dX3_kindsWith_56 hn82 ?_
            refine lv_topi (fun v83 ev83 => ?_)
            replace h := mi_use ev83 h
            obtain ⟨r84, hr84, h⟩ := Option.bind_eq_some_iff.mp h
            have hPc := hP.sub (ws' := [(h0, .inr (3, [.ref h0_roots, .ref h0_strides, .ref h0_halvesFound])), (h0_roots, .inr (1, [.ref h0_roots_least, .int x73])), (h0_roots_least, .inl (k_t_roots_least, 10007, .inl x74))]) [0, 1, 2] rfl
            have hDc := hD.sub (ws' := [(h0, .inr (3, [.ref h0_roots, .ref h0_strides, .ref h0_halvesFound])), (h0_roots, .inr (1, [.ref h0_roots_least, .int x73])), (h0_roots_least, .inl (k_t_roots_least, 10007, .inl x74))]) [0, 1, 2] (by decide) rfl
            have hKc := hK.sub (tys' := [(k_t_roots_least, .int)]) [0] rfl
            have hFc := va_free (wc := [(h0, .inr (3, [.ref h0_roots, .ref h0_strides, .ref h0_halvesFound])), (h0_roots, .inr (1, [.ref h0_roots_least, .int x73])), (h0_roots_least, .inl (k_t_roots_least, 10007, .inl x74))]) hD hS hA0 [0, 1, 2] rfl
            refine va_calli (va_runV (As := [.int a0, .int v81, .int v83]) (rest := []) ⟨hx, hb, hml, hown, hts⟩ (ctX3_manyPoints l N dC dI _ h0 h0_roots h0_roots_least h0_strides h0_halvesFound k_t_roots_least x73 x74 a0 v81 v83 r84 hr84) (cwV 3 hts gX3_kindsWith_X3_manyPoints rfl rfl rfl (by decide +kernel) ⟨Nat.le_of_ble_eq_true rfl, Nat.le_of_ble_eq_true rfl⟩) ⟨fun a U g mk q => by obtain ⟨q0, q1, qP, qK, qN, qD⟩ := q; exact ⟨q0, q1, qP, va_K.moved (u := U) (U := U.calling g mk a) (Vm.Alike.refl U.vm) qK, nw_same (u := U) (U := U.calling g mk a) rfl qN, qD⟩, va_recv hKc hPc (ci := 3) (q0 := 0) rfl rfl, fun U hU hW => ⟨rfl, by rw [hU], by rw [hU]; exact hPc, va_K.moved hW.alike hKc, nw_warm hW hN, hDc.weaken (fun _ _ _ _ => trivial)⟩⟩ rfl rfl hl.1 rfl (lv_room (Nat.le_of_ble_eq_true rfl)) dX3_kindsWith_57 ⟨Nat.le_of_ble_eq_true rfl, Nat.le_of_ble_eq_true rfl⟩) hS (fun q _ h => hFc q h) hFc (fun rz u t H1 locs ht hvm hw hB1 hz1 hk1 hS => ?_)
            obtain ⟨u85, f86⟩ := u
            obtain ⟨hP1, hK1, hD1⟩ := hB1
            rw [ht] at hP1
            have hK1 := va_K.moved hvm.symm hK1
            obtain ⟨r87, rfl⟩ : ∃ z, z = rz := ⟨_, rfl⟩
            subst hw
            try dsimp only at h
            obtain ⟨hP, hD⟩ := va_join (wr := []) (w1 := [(h0, .inr (3, [.ref h0_roots, .ref h0_strides, .ref h0_halvesFound])), (h0_roots, .inr (1, [.ref h0_roots_least, .int u85])), (h0_roots_least, .inl (k_t_roots_least, 10007, .inl f86))]) hP hD [0, 1, 2] [] rfl rfl (by decide) (by decide) hk1 hFc hP1 hD1
            generalize H1 = H at hP hS ⊢
            have hP := hP.sub (ws' := [(h0, .inr (3, [.ref h0_roots, .ref h0_strides, .ref h0_halvesFound])), (h0_roots, .inr (1, [.ref h0_roots_least, .int u85])), (h0_roots_least, .inl (k_t_roots_least, 10007, .inl f86))]) [0, 1, 2] rfl
            have hD := hD.sub (ws' := [(h0, .inr (3, [.ref h0_roots, .ref h0_strides, .ref h0_halvesFound])), (h0_roots, .inr (1, [.ref h0_roots_least, .int u85])), (h0_roots_least, .inl (k_t_roots_least, 10007, .inl f86))]) [0, 1, 2] (by decide) rfl
            refine lv_istore (lv' := [(5, .int r87), (3, .int x71), (4, .int x72), (0, .ref h0), (1, .int a0), (2, .int a1)]) hx hb dX3_kindsWith_60 hl (by decide) rfl (fun ls hl => ?_)
            refine lv_iload_n hx hb dX3_kindsWith_62 rfl (lv_at hl 1 rfl) ?_
            refine lv_iload hx hb dX3_kindsWith_63 (lv_at hl 0 rfl) ?_
            refine lv_iload_n hx hb dX3_kindsWith_65 rfl (lv_at hl 5 rfl) ?_
            refine lv_icmp_eq (tgt := 81) hx hb dX3_kindsWith_66 (by decide) (fun c88 => ?_) (fun c88 => ?_)
            · replace h := (if_pos c88).symm.trans h
              refine lv_iconst (v := 1) hx hb dX3_kindsWith_81 (by decide) ?_
              refine lv_goto (tgt := 86) hx hb dX3_kindsWith_82 (by decide) ?_
              refine lv_iadd hx hb dX3_kindsWith_86 ?_
              refine lv_topi (fun v89 ev89 => ?_)
              replace h := mi_use ev89 h
              refine lv_istore_n (lv' := [(3, .int v89), (5, .int r87), (4, .int x72), (0, .ref h0), (1, .int a0), (2, .int a1)]) hx hb dX3_kindsWith_87 rfl hl (by decide) rfl (fun ls hl => ?_)
              obtain ⟨v90, ev90⟩ : ∃ z : Int32, z = x72 + 1 := ⟨_, rfl⟩
              refine lv_iinc (v := v90) (lv' := [(4, .int v90), (3, .int v89), (5, .int r87), (0, .ref h0), (1, .int a0), (2, .int a1)]) hx hb dX3_kindsWith_88 hl (k := 2) rfl (by rw [ev90]; rfl) (by decide) rfl (fun ls hl => ?_)
              replace h := mi_use ev90 h
              refine lv_goto (tgt := 35) hx hb dX3_kindsWith_91 (by decide) ?_
              exact ih _ _ _ _ _ (hA _ (Option.some.inj h).symm) hkE _ _ ls hP hD hS (lv_sub hl [1, 0, 3, 4, 5] rfl)
            · replace h := (if_neg c88).symm.trans h
              refine lv_iconst (v := 2) hx hb dX3_kindsWith_69 (by decide) ?_
              refine lv_iload_n hx hb dX3_kindsWith_70 rfl (lv_at hl 4 rfl) ?_
              refine lv_imul hx hb dX3_kindsWith_71 ?_
              refine lv_iconst (v := 2) hx hb dX3_kindsWith_72 (by decide) ?_
              refine lv_iadd hx hb dX3_kindsWith_73 ?_
              refine lv_iload hx hb dX3_kindsWith_74 (lv_at hl 0 rfl) ?_
              refine lv_isub hx hb dX3_kindsWith_76 ?_
              refine lv_iload_n hx hb dX3_kindsWith_77 rfl (lv_at hl 5 rfl) ?_
              refine lv_icmp_ne (tgt := 85) hx hb dX3_kindsWith_78 (by decide) (fun c91 => ?_) (fun c91 => ?_)
              · replace h := (if_neg c91).symm.trans h
                refine lv_iconst (v := 0) hx hb dX3_kindsWith_85 (by decide) ?_
                refine lv_iadd hx hb dX3_kindsWith_86 ?_
                refine lv_topi (fun v92 ev92 => ?_)
                replace h := mi_use ev92 h
                refine lv_istore_n (lv' := [(3, .int v92), (5, .int r87), (4, .int x72), (0, .ref h0), (1, .int a0), (2, .int a1)]) hx hb dX3_kindsWith_87 rfl hl (by decide) rfl (fun ls hl => ?_)
                obtain ⟨v93, ev93⟩ : ∃ z : Int32, z = x72 + 1 := ⟨_, rfl⟩
                refine lv_iinc (v := v93) (lv' := [(4, .int v93), (3, .int v92), (5, .int r87), (0, .ref h0), (1, .int a0), (2, .int a1)]) hx hb dX3_kindsWith_88 hl (k := 2) rfl (by rw [ev93]; rfl) (by decide) rfl (fun ls hl => ?_)
                replace h := mi_use ev93 h
                refine lv_goto (tgt := 35) hx hb dX3_kindsWith_91 (by decide) ?_
                exact ih _ _ _ _ _ (hA _ (Option.some.inj h).symm) hkE _ _ ls hP hD hS (lv_sub hl [1, 0, 3, 4, 5] rfl)
              · replace h := (if_pos c91).symm.trans h
                refine lv_iconst (v := 1) hx hb dX3_kindsWith_81 (by decide) ?_
                refine lv_goto (tgt := 86) hx hb dX3_kindsWith_82 (by decide) ?_
                refine lv_iadd hx hb dX3_kindsWith_86 ?_
                refine lv_topi (fun v94 ev94 => ?_)
                replace h := mi_use ev94 h
                refine lv_istore_n (lv' := [(3, .int v94), (5, .int r87), (4, .int x72), (0, .ref h0), (1, .int a0), (2, .int a1)]) hx hb dX3_kindsWith_87 rfl hl (by decide) rfl (fun ls hl => ?_)
                obtain ⟨v95, ev95⟩ : ∃ z : Int32, z = x72 + 1 := ⟨_, rfl⟩
                refine lv_iinc (v := v95) (lv' := [(4, .int v95), (3, .int v94), (5, .int r87), (0, .ref h0), (1, .int a0), (2, .int a1)]) hx hb dX3_kindsWith_88 hl (k := 2) rfl (by rw [ev95]; rfl) (by decide) rfl (fun ls hl => ?_)
                replace h := mi_use ev95 h
                refine lv_goto (tgt := 35) hx hb dX3_kindsWith_91 (by decide) ?_
                exact ih _ _ _ _ _ (hA _ (Option.some.inj h).symm) hkE _ _ ls hP hD hS (lv_sub hl [1, 0, 3, 4, 5] rfl)
      obtain ⟨o96, ho96, h⟩ := Option.bind_eq_some_iff.mp h
      refine L35 N _ _ _ _ o96 ho96 ?_ _ _ ls hP hD hS (lv_sub hl [1, 0, 2, 3, 4] rfl)
      intro y75 y76 y77 y78 eo H locs ls hP hD hS hl
      subst eo
      try dsimp only at h
      refine lv_iload_n hx hb dX3_kindsWith_94 rfl (lv_at hl 0 rfl) ?_
      have hv : (y75, y77, y78) = rr := Option.some.inj h
      have hP9 := hP.sub (ws' := [(h0, .inr (3, [.ref h0_roots, .ref h0_strides, .ref h0_halvesFound])), (h0_roots, .inr (1, [.ref h0_roots_least, .int y77])), (h0_roots_least, .inl (k_t_roots_least, 10007, .inl y78))]) [0, 1, 2] rfl
      have hD9 := hD.sub (ws' := [(h0, .inr (3, [.ref h0_roots, .ref h0_strides, .ref h0_halvesFound])), (h0_roots, .inr (1, [.ref h0_roots_least, .int y77])), (h0_roots_least, .inl (k_t_roots_least, 10007, .inl y78))]) [0, 1, 2] (by decide) rfl
      have hK9 := hK.sub (tys' := [(k_t_roots_least, .int)]) [0] rfl
      exact W.iret (v := y75) hx hb hr (fun t ht hW => ⟨⟨y75, (y77, y78), rfl, hv, by rw [ht]; exact hP9, va_K.moved hW.alike hK9, hD9⟩, hS.F ht⟩) hS.2.2 dX3_kindsWith_95
    · replace h := (if_neg c69).symm.trans h
      refine lv_iconst (v := 1) hx hb dX3_kindsWith_25 (by decide) ?_
      refine lv_goto (tgt := 30) hx hb dX3_kindsWith_26 (by decide) ?_
      refine lv_iadd hx hb dX3_kindsWith_30 ?_
      refine lv_topi (fun v97 ev97 => ?_)
      replace h := mi_use ev97 h
      refine lv_istore_n (lv' := [(3, .int v97), (0, .ref h0), (1, .int a0), (2, .int a1)]) hx hb dX3_kindsWith_31 rfl hl (by decide) rfl (fun ls hl => ?_)
      refine lv_iconst (v := 1) hx hb dX3_kindsWith_32 (by decide) ?_
      refine lv_istore (lv' := [(4, .int 1), (3, .int v97), (0, .ref h0), (1, .int a0), (2, .int a1)]) hx hb dX3_kindsWith_33 hl (by decide) rfl (fun ls hl => ?_)
      have L35 : ∀ (n : Nat) (x98 : Int32) (x99 : Int32) (x100 : Int32) (x101 : Nat → Int32) (o : Int32 × Int32 × Int32 × (Nat → Int32)), mi_run (mX3_kindsWith_b35 N a0 a1) n (x98, x99, x100, x101) = some o → (∀ (y102 : Int32) (y103 : Int32) (y104 : Int32) (y105 : Nat → Int32), o = (y102, y103, y104, y105) → ∀ (H : Heap) (locs : List Loc) (ls : Array Slot), va_P (dC, dI) vwCl [(h0, .inr (3, [.ref h0_roots, .ref h0_strides, .ref h0_halvesFound])), (h0_roots, .inr (1, [.ref h0_roots_least, .int y104])), (h0_roots_least, .inl (k_t_roots_least, 10007, .inl y105))] H → va_D A [(h0, .inr (3, [.ref h0_roots, .ref h0_strides, .ref h0_halvesFound])), (h0_roots, .inr (1, [.ref h0_roots_least, .int y104])), (h0_roots_least, .inl (k_t_roots_least, 10007, .inl y105))] → va_S A s.heap H locs → lv_has ls 6 [(3, .int y102), (4, .int y103), (0, .ref h0), (1, .int a0), (2, .int a1)] → W p l e (headSpec wsX3_kindsWith rmX3_kindsWith).room s m (([.ref h0, .int a0, .int a1] : List Value).toArray) below meth c H locs 0 0 (MQ below (va_Qi (fun (r : Int32) (u : Int32 × (Nat → Int32)) => (r, u) = rr) (fun (u : Int32 × (Nat → Int32)) t => match u with | (u0, u1) => va_P (dC, dI) vwCl [(h0, .inr (3, [.ref h0_roots, .ref h0_strides, .ref h0_halvesFound])), (h0_roots, .inr (1, [.ref h0_roots_least, .int u0])), (h0_roots_least, .inl (k_t_roots_least, 10007, .inl u1))] t.heap ∧ va_K (dC, dI) vwCl [(k_t_roots_least, .int)] t ∧ va_D (A) [(h0, .inr (3, [.ref h0_roots, .ref h0_strides, .ref h0_halvesFound])), (h0_roots, .inr (1, [.ref h0_roots_least, .int u0])), (h0_roots_least, .inl (k_t_roots_least, 10007, .inl u1))]) (A)) (([.ref h0, .int a0, .int a1] : List Value).toArray) s 0 0 A) (F0 m 94 ls [])) → ∀ (H : Heap) (locs : List Loc) (ls : Array Slot), va_P (dC, dI) vwCl [(h0, .inr (3, [.ref h0_roots, .ref h0_strides, .ref h0_halvesFound])), (h0_roots, .inr (1, [.ref h0_roots_least, .int x100])), (h0_roots_least, .inl (k_t_roots_least, 10007, .inl x101))] H → va_D A [(h0, .inr (3, [.ref h0_roots, .ref h0_strides, .ref h0_halvesFound])), (h0_roots, .inr (1, [.ref h0_roots_least, .int x100])), (h0_roots_least, .inl (k_t_roots_least, 10007, .inl x101))] → va_S A s.heap H locs → lv_has ls 6 [(3, .int x98), (4, .int x99), (0, .ref h0), (1, .int a0), (2, .int a1)] → W p l e (headSpec wsX3_kindsWith rmX3_kindsWith).room s m (([.ref h0, .int a0, .int a1] : List Value).toArray) below meth c H locs 0 0 (MQ below (va_Qi (fun (r : Int32) (u : Int32 × (Nat → Int32)) => (r, u) = rr) (fun (u : Int32 × (Nat → Int32)) t => match u with | (u0, u1) => va_P (dC, dI) vwCl [(h0, .inr (3, [.ref h0_roots, .ref h0_strides, .ref h0_halvesFound])), (h0_roots, .inr (1, [.ref h0_roots_least, .int u0])), (h0_roots_least, .inl (k_t_roots_least, 10007, .inl u1))] t.heap ∧ va_K (dC, dI) vwCl [(k_t_roots_least, .int)] t ∧ va_D (A) [(h0, .inr (3, [.ref h0_roots, .ref h0_strides, .ref h0_halvesFound])), (h0_roots, .inr (1, [.ref h0_roots_least, .int u0])), (h0_roots_least, .inl (k_t_roots_least, 10007, .inl u1))]) (A)) (([.ref h0, .int a0, .int a1] : List Value).toArray) s 0 0 A) (F0 m 35 ls []) := by
        intro n
        induction n with
        | zero => intro x98 x99 x100 x101 o h; exact absurd h (mi_run_0 _ _ _)
        | succ n ih =>
          intro x98 x99 x100 x101 o h hkE H locs ls hP hD hS hl
          obtain ⟨w, h, hA, hB⟩ := mi_run_s h
          dsimp only [mX3_kindsWith_b35] at h
          refine lv_iload hx hb dX3_kindsWith_35 (lv_at hl 1 rfl) ?_
          refine lv_iload_n hx hb dX3_kindsWith_37 rfl (lv_at hl 3 rfl) ?_
          refine lv_iconst (v := 1) hx hb dX3_kindsWith_38 (by decide) ?_
          refine lv_isub hx hb dX3_kindsWith_39 ?_
          refine lv_icmp_ge (tgt := 94) hx hb dX3_kindsWith_40 (by decide) (fun c106 => ?_) (fun c106 => ?_)
          · replace h := (if_pos c106).symm.trans h
            exact hkE _ _ _ _ (hB _ (Option.some.inj h).symm) _ _ ls hP hD hS (lv_sub hl [0, 1, 2, 3, 4] rfl)
          · replace h := (if_neg c106).symm.trans h
            refine lv_aload_n hx hb dX3_kindsWith_43 rfl (lv_at hl 2 rfl) ?_
            refine lv_iload_n hx hb dX3_kindsWith_44 rfl (lv_at hl 3 rfl) ?_
            refine lv_iconst (v := 3) hx hb dX3_kindsWith_45 (by decide) ?_
            refine lv_iload hx hb dX3_kindsWith_46 (lv_at hl 1 rfl) ?_
            refine lv_imul hx hb dX3_kindsWith_48 ?_
            refine lv_iload_n hx hb dX3_kindsWith_49 rfl (lv_at hl 3 rfl) ?_
            have hn107 : ¬ a0 = 0 := fun hz => absurd ((if_pos hz).symm.trans h) (fun hh => nomatch hh)
            replace h := (if_neg hn107).symm.trans h
            refine lv_irem hx hb dX3_kindsWith_50 hn107 ?_
            refine lv_topi (fun v108 ev108 => ?_)
            replace h := mi_use ev108 h
            refine lv_iconst (v := 2) hx hb dX3_kindsWith_51 (by decide) ?_
            refine lv_iload hx hb dX3_kindsWith_52 (lv_at hl 1 rfl) ?_
            refine lv_imul hx hb dX3_kindsWith_54 ?_
            refine lv_iload_n hx hb dX3_kindsWith_55 rfl (lv_at hl 3 rfl) ?_
            have hn109 : ¬ a0 = 0 := fun hz => absurd ((if_pos hz).symm.trans h) (fun hh => nomatch hh)
            replace h := (if_neg hn109).symm.trans h
            refine lv_irem hx hb dX3_kindsWith_56 hn109 ?_
            refine lv_topi (fun v110 ev110 => ?_)
            replace h := mi_use ev110 h
            obtain ⟨r111, hr111, h⟩ := Option.bind_eq_some_iff.mp h
            have hPc := hP.sub (ws' := [(h0, .inr (3, [.ref h0_roots, .ref h0_strides, .ref h0_halvesFound])), (h0_roots, .inr (1, [.ref h0_roots_least, .int x100])), (h0_roots_least, .inl (k_t_roots_least, 10007, .inl x101))]) [0, 1, 2] rfl
            have hDc := hD.sub (ws' := [(h0, .inr (3, [.ref h0_roots, .ref h0_strides, .ref h0_halvesFound])), (h0_roots, .inr (1, [.ref h0_roots_least, .int x100])), (h0_roots_least, .inl (k_t_roots_least, 10007, .inl x101))]) [0, 1, 2] (by decide) rfl
            have hKc := hK.sub (tys' := [(k_t_roots_least, .int)]) [0] rfl
            have hFc := va_free (wc := [(h0, .inr (3, [.ref h0_roots, .ref h0_strides, .ref h0_halvesFound])), (h0_roots, .inr (1, [.ref h0_roots_least, .int x100])), (h0_roots_least, .inl (k_t_roots_least, 10007, .inl x101))]) hD hS hA0 [0, 1, 2] rfl
            refine va_calli (va_runV (As := [.int a0, .int v108, .int v110]) (rest := []) ⟨hx, hb, hml, hown, hts⟩ (ctX3_manyPoints l N dC dI _ h0 h0_roots h0_roots_least h0_strides h0_halvesFound k_t_roots_least x100 x101 a0 v108 v110 r111 hr111) (cwV 3 hts gX3_kindsWith_X3_manyPoints rfl rfl rfl (by decide +kernel) ⟨Nat.le_of_ble_eq_true rfl, Nat.le_of_ble_eq_true rfl⟩) ⟨fun a U g mk q => by obtain ⟨q0, q1, qP, qK, qN, qD⟩ := q; exact ⟨q0, q1, qP, va_K.moved (u := U) (U := U.calling g mk a) (Vm.Alike.refl U.vm) qK, nw_same (u := U) (U := U.calling g mk a) rfl qN, qD⟩, va_recv hKc hPc (ci := 3) (q0 := 0) rfl rfl, fun U hU hW => ⟨rfl, by rw [hU], by rw [hU]; exact hPc, va_K.moved hW.alike hKc, nw_warm hW hN, hDc.weaken (fun _ _ _ _ => trivial)⟩⟩ rfl rfl hl.1 rfl (lv_room (Nat.le_of_ble_eq_true rfl)) dX3_kindsWith_57 ⟨Nat.le_of_ble_eq_true rfl, Nat.le_of_ble_eq_true rfl⟩) hS (fun q _ h => hFc q h) hFc (fun rz u t H1 locs ht hvm hw hB1 hz1 hk1 hS => ?_)
            obtain ⟨u112, f113⟩ := u
            obtain ⟨hP1, hK1, hD1⟩ := hB1
            rw [ht] at hP1
            have hK1 := va_K.moved hvm.symm hK1
            obtain ⟨r114, rfl⟩ : ∃ z, z = rz := ⟨_, rfl⟩
            subst hw
            try dsimp only at h
            obtain ⟨hP, hD⟩ := va_join (wr := []) (w1 := [(h0, .inr (3, [.ref h0_roots, .ref h0_strides, .ref h0_halvesFound])), (h0_roots, .inr (1, [.ref h0_roots_least, .int u112])), (h0_roots_least, .inl (k_t_roots_least, 10007, .inl f113))]) hP hD [0, 1, 2] [] rfl rfl (by decide) (by decide) hk1 hFc hP1 hD1
            generalize H1 = H at hP hS ⊢
            have hP := hP.sub (ws' := [(h0, .inr (3, [.ref h0_roots, .ref h0_strides, .ref h0_halvesFound])), (h0_roots, .inr (1, [.ref h0_roots_least, .int u112])), (h0_roots_least, .inl (k_t_roots_least, 10007, .inl f113))]) [0, 1, 2] rfl
            have hD := hD.sub (ws' := [(h0, .inr (3, [.ref h0_roots, .ref h0_strides, .ref h0_halvesFound])), (h0_roots, .inr (1, [.ref h0_roots_least, .int u112])), (h0_roots_least, .inl (k_t_roots_least, 10007, .inl f113))]) [0, 1, 2] (by decide) rfl
            refine lv_istore (lv' := [(5, .int r114), (3, .int x98), (4, .int x99), (0, .ref h0), (1, .int a0), (2, .int a1)]) hx hb dX3_kindsWith_60 hl (by decide) rfl (fun ls hl => ?_)
            refine lv_iload_n hx hb dX3_kindsWith_62 rfl (lv_at hl 1 rfl) ?_
            refine lv_iload hx hb dX3_kindsWith_63 (lv_at hl 0 rfl) ?_
            refine lv_iload_n hx hb dX3_kindsWith_65 rfl (lv_at hl 5 rfl) ?_
            refine lv_icmp_eq (tgt := 81) hx hb dX3_kindsWith_66 (by decide) (fun c115 => ?_) (fun c115 => ?_)
            · replace h := (if_pos c115).symm.trans h
              refine lv_iconst (v := 1) hx hb dX3_kindsWith_81 (by decide) ?_
              refine lv_goto (tgt := 86) hx hb dX3_kindsWith_82 (by decide) ?_
              refine lv_iadd hx hb dX3_kindsWith_86 ?_
              refine lv_topi (fun v116 ev116 => ?_)
              replace h := mi_use ev116 h
              refine lv_istore_n (lv' := [(3, .int v116), (5, .int r114), (4, .int x99), (0, .ref h0), (1, .int a0), (2, .int a1)]) hx hb dX3_kindsWith_87 rfl hl (by decide) rfl (fun ls hl => ?_)
              obtain ⟨v117, ev117⟩ : ∃ z : Int32, z = x99 + 1 := ⟨_, rfl⟩
              refine lv_iinc (v := v117) (lv' := [(4, .int v117), (3, .int v116), (5, .int r114), (0, .ref h0), (1, .int a0), (2, .int a1)]) hx hb dX3_kindsWith_88 hl (k := 2) rfl (by rw [ev117]; rfl) (by decide) rfl (fun ls hl => ?_)
              replace h := mi_use ev117 h
              refine lv_goto (tgt := 35) hx hb dX3_kindsWith_91 (by decide) ?_
              exact ih _ _ _ _ _ (hA _ (Option.some.inj h).symm) hkE _ _ ls hP hD hS (lv_sub hl [1, 0, 3, 4, 5] rfl)
            · replace h := (if_neg c115).symm.trans h
              refine lv_iconst (v := 2) hx hb dX3_kindsWith_69 (by decide) ?_
              refine lv_iload_n hx hb dX3_kindsWith_70 rfl (lv_at hl 4 rfl) ?_
              refine lv_imul hx hb dX3_kindsWith_71 ?_
              refine lv_iconst (v := 2) hx hb dX3_kindsWith_72 (by decide) ?_
              refine lv_iadd hx hb dX3_kindsWith_73 ?_
              refine lv_iload hx hb dX3_kindsWith_74 (lv_at hl 0 rfl) ?_
              refine lv_isub hx hb dX3_kindsWith_76 ?_
              refine lv_iload_n hx hb dX3_kindsWith_77 rfl (lv_at hl 5 rfl) ?_
              refine lv_icmp_ne (tgt := 85) hx hb dX3_kindsWith_78 (by decide) (fun c118 => ?_) (fun c118 => ?_)
              · replace h := (if_neg c118).symm.trans h
                refine lv_iconst (v := 0) hx hb dX3_kindsWith_85 (by decide) ?_
                refine lv_iadd hx hb dX3_kindsWith_86 ?_
                refine lv_topi (fun v119 ev119 => ?_)
                replace h := mi_use ev119 h
                refine lv_istore_n (lv' := [(3, .int v119), (5, .int r114), (4, .int x99), (0, .ref h0), (1, .int a0), (2, .int a1)]) hx hb dX3_kindsWith_87 rfl hl (by decide) rfl (fun ls hl => ?_)
                obtain ⟨v120, ev120⟩ : ∃ z : Int32, z = x99 + 1 := ⟨_, rfl⟩
                refine lv_iinc (v := v120) (lv' := [(4, .int v120), (3, .int v119), (5, .int r114), (0, .ref h0), (1, .int a0), (2, .int a1)]) hx hb dX3_kindsWith_88 hl (k := 2) rfl (by rw [ev120]; rfl) (by decide) rfl (fun ls hl => ?_)
                replace h := mi_use ev120 h
                refine lv_goto (tgt := 35) hx hb dX3_kindsWith_91 (by decide) ?_
                exact ih _ _ _ _ _ (hA _ (Option.some.inj h).symm) hkE _ _ ls hP hD hS (lv_sub hl [1, 0, 3, 4, 5] rfl)
              · replace h := (if_pos c118).symm.trans h
                refine lv_iconst (v := 1) hx hb dX3_kindsWith_81 (by decide) ?_
                refine lv_goto (tgt := 86) hx hb dX3_kindsWith_82 (by decide) ?_
                refine lv_iadd hx hb dX3_kindsWith_86 ?_
                refine lv_topi (fun v121 ev121 => ?_)
                replace h := mi_use ev121 h
                refine lv_istore_n (lv' := [(3, .int v121), (5, .int r114), (4, .int x99), (0, .ref h0), (1, .int a0), (2, .int a1)]) hx hb dX3_kindsWith_87 rfl hl (by decide) rfl (fun ls hl => ?_)
                obtain ⟨v122, ev122⟩ : ∃ z : Int32, z = x99 + 1 := ⟨_, rfl⟩
                refine lv_iinc (v := v122) (lv' := [(4, .int v122), (3, .int v121), (5, .int r114), (0, .ref h0), (1, .int a0), (2, .int a1)]) hx hb dX3_kindsWith_88 hl (k := 2) rfl (by rw [ev122]; rfl) (by decide) rfl (fun ls hl => ?_)
                replace h := mi_use ev122 h
                refine lv_goto (tgt := 35) hx hb dX3_kindsWith_91 (by decide) ?_
                exact ih _ _ _ _ _ (hA _ (Option.some.inj h).symm) hkE _ _ ls hP hD hS (lv_sub hl [1, 0, 3, 4, 5] rfl)
      obtain ⟨o123, ho123, h⟩ := Option.bind_eq_some_iff.mp h
      refine L35 N _ _ _ _ o123 ho123 ?_ _ _ ls hP hD hS (lv_sub hl [1, 0, 2, 3, 4] rfl)
      intro y102 y103 y104 y105 eo H locs ls hP hD hS hl
      subst eo
      try dsimp only at h
      refine lv_iload_n hx hb dX3_kindsWith_94 rfl (lv_at hl 0 rfl) ?_
      have hv : (y102, y104, y105) = rr := Option.some.inj h
      have hP9 := hP.sub (ws' := [(h0, .inr (3, [.ref h0_roots, .ref h0_strides, .ref h0_halvesFound])), (h0_roots, .inr (1, [.ref h0_roots_least, .int y104])), (h0_roots_least, .inl (k_t_roots_least, 10007, .inl y105))]) [0, 1, 2] rfl
      have hD9 := hD.sub (ws' := [(h0, .inr (3, [.ref h0_roots, .ref h0_strides, .ref h0_halvesFound])), (h0_roots, .inr (1, [.ref h0_roots_least, .int y104])), (h0_roots_least, .inl (k_t_roots_least, 10007, .inl y105))]) [0, 1, 2] (by decide) rfl
      have hK9 := hK.sub (tys' := [(k_t_roots_least, .int)]) [0] rfl
      exact W.iret (v := y102) hx hb hr (fun t ht hW => ⟨⟨y102, (y104, y105), rfl, hv, by rw [ht]; exact hP9, va_K.moved hW.alike hK9, hD9⟩, hS.F ht⟩) hS.2.2 dX3_kindsWith_95
