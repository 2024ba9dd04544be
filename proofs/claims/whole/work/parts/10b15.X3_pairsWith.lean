def mX3_pairsWith_b17 (N : Nat) (a0 : Int32) (a1 : Int32) (st : Int32 × Int32 × Int32 × (Nat → Int32)) : Option ((Int32 × Int32 × Int32 × (Nat → Int32)) ⊕ (Int32 × Int32 × Int32 × (Nat → Int32))) :=
  match st with
  | (x10, x11, x12, x13) => if (a0 - 1) ≤ x11 then some (.inr (x10, x11, x12, x13)) else if a0 = 0 then none else mi_let (mi_rem (3 * x11) a0) (fun v20 => if a0 = 0 then none else mi_let (mi_rem (2 * x11) a0) (fun v22 => (mX3_manyPoints N x12 x13 a0 v20 v22).bind (fun r23 => match r23 with | (r26, u24, f25) => if r26 = a1 then mi_let ((a0 - 1) / 2) (fun v35 => mi_let (x10 + v35) (fun v36 => if (((2 * a0) + 2) - r26) = a1 then mi_let ((a0 - 1) / 2) (fun v40 => mi_let (v36 + v40) (fun v41 => mi_let (x11 + 1) (fun v42 => some (.inl (v41, v42, u24, f25))))) else mi_let (v36 + 0) (fun v38 => mi_let (x11 + 1) (fun v39 => some (.inl (v38, v39, u24, f25)))))) else mi_let (x10 + 0) (fun v28 => if (((2 * a0) + 2) - r26) = a1 then mi_let ((a0 - 1) / 2) (fun v32 => mi_let (v28 + v32) (fun v33 => mi_let (x11 + 1) (fun v34 => some (.inl (v33, v34, u24, f25))))) else mi_let (v28 + 0) (fun v30 => mi_let (x11 + 1) (fun v31 => some (.inl (v30, v31, u24, f25))))))))
def mX3_pairsWith (N : Nat) (t_roots_prime : Int32) (t_roots_least : Nat → Int32) (a0 : Int32) (a1 : Int32) : Option (Int32 × Int32 × (Nat → Int32)) := (mX3_manyWithoutA N t_roots_prime t_roots_least a0 a1).bind (fun r1 => match r1 with | (r4, u2, f3) => (mX3_manyWithoutB N u2 f3 a0 a1).bind (fun r5 => match r5 with | (r8, u6, f7) => mi_let (r4 + r8) (fun v9 => (mi_run (mX3_pairsWith_b17 N a0 a1) N (v9, 1, u6, f7)).bind (fun o43 => match o43 with | (y14, y15, y16, y17) => some (y14, y16, y17)))))
abbrev rmX3_pairsWith : Room := { frames := 5, cells := 0, slots := 0, locals := 115 }
set_option maxHeartbeats 4000000 in
set_option maxRecDepth 100000 in
theorem ctX3_pairsWith (l : Launch) (N : Nat) (dC : Nat → ClassId) (dI : Nat → Nat → Nat) (sz : Nat) (h0 : Nat) (h0_roots : Nat) (h0_roots_least : Nat) (h0_strides : Nat) (h0_halvesFound : Nat) (k_t_roots_least : ClassId) (t_roots_prime : Int32) (t_roots_least : Nat → Int32) (a0 : Int32) (a1 : Int32) (rr : Int32 × Int32 × (Nat → Int32)) (h : mX3_pairsWith N t_roots_prime t_roots_least a0 a1 = some rr) : Met l yX3_pairsWith wsX3_pairsWith rmX3_pairsWith (va_Pc [.ref h0, .int a0, .int a1] (fun U => U.heap.size = sz ∧ va_P (dC, dI) vwCl [(h0, .inr (3, [.ref h0_roots, .ref h0_strides, .ref h0_halvesFound])), (h0_roots, .inr (1, [.ref h0_roots_least, .int t_roots_prime])), (h0_roots_least, .inl (k_t_roots_least, 10007, .inl t_roots_least))] U.heap ∧ va_K (dC, dI) vwCl [(k_t_roots_least, .int)] U ∧ nw_all U ∧ va_D (fun _ => True) [(h0, .inr (3, [.ref h0_roots, .ref h0_strides, .ref h0_halvesFound])), (h0_roots, .inr (1, [.ref h0_roots_least, .int t_roots_prime])), (h0_roots_least, .inl (k_t_roots_least, 10007, .inl t_roots_least))])) (va_Qi (fun (r : Int32) (u : Int32 × (Nat → Int32)) => (r, u) = rr) (fun (u : Int32 × (Nat → Int32)) t => match u with | (u0, u1) => va_P (dC, dI) vwCl [(h0, .inr (3, [.ref h0_roots, .ref h0_strides, .ref h0_halvesFound])), (h0_roots, .inr (1, [.ref h0_roots_least, .int u0])), (h0_roots_least, .inl (k_t_roots_least, 10007, .inl u1))] t.heap ∧ va_K (dC, dI) vwCl [(k_t_roots_least, .int)] t ∧ va_D (va_A [(h0, .inr (3, [.ref h0_roots, .ref h0_strides, .ref h0_halvesFound])), (h0_roots, .inr (1, [.ref h0_roots_least, .int t_roots_prime])), (h0_roots_least, .inl (k_t_roots_least, 10007, .inl t_roots_least))] sz) [(h0, .inr (3, [.ref h0_roots, .ref h0_strides, .ref h0_halvesFound])), (h0_roots, .inr (1, [.ref h0_roots_least, .int u0])), (h0_roots_least, .inl (k_t_roots_least, 10007, .inl u1))]) (va_A [(h0, .inr (3, [.ref h0_roots, .ref h0_strides, .ref h0_halvesFound])), (h0_roots, .inr (1, [.ref h0_roots_least, .int t_roots_prime])), (h0_roots_least, .inl (k_t_roots_least, 10007, .inl t_roots_least))] sz)) 0 0 (va_A [(h0, .inr (3, [.ref h0_roots, .ref h0_strides, .ref h0_halvesFound])), (h0_roots, .inr (1, [.ref h0_roots_least, .int t_roots_prime])), (h0_roots_least, .inl (k_t_roots_least, 10007, .inl t_roots_least))] sz) := by
  refine Met.ofW (cc := cX3_pairsWith) (maxL := 6) (ret := (some .int)) (by decide) rfl ?_
  intro p e s m args below meth c s₁ B hml hv
  obtain ⟨rfl, hsz, hP, hK, hN, hD0⟩ := hv
  have hx := B.exec
  have hb := B.bytes
  have hr := B.returns
  have hts := atoms_spec (ws := wsX3_pairsWith) B.pre
  have hown : s.vm.findClass RX3 = some m.cls := findClass_of_methodNamed B.named
  have hlocks := B.notSynchronized
  subst hsz
  have hD := hD0.self (sz := s.heap.size)
  generalize hAe : va_A [(h0, .inr (3, [.ref h0_roots, .ref h0_strides, .ref h0_halvesFound])), (h0_roots, .inr (1, [.ref h0_roots_least, .int t_roots_prime])), (h0_roots_least, .inl (k_t_roots_least, 10007, .inl t_roots_least))] s.heap.size = A at hD ⊢
  have hA0 : ∀ q : Nat, s.heap.size ≤ q → A q := fun q h => by rw [← hAe]; exact Or.inr h
  have hS : va_S A s.heap s.heap [] := va_S.rf
  have hP : va_P (dC, dI) vwCl [(h0, .inr (3, [.ref h0_roots, .ref h0_strides, .ref h0_halvesFound])), (h0_roots, .inr (1, [.ref h0_roots_least, .int t_roots_prime])), (h0_roots_least, .inl (k_t_roots_least, 10007, .inl t_roots_least))] s.heap := hP
  have hl := lv_entry ([.ref h0, .int a0, .int a1]) (n := 6) (Nat.le_of_ble_eq_true rfl)
  rw [lg_entry_eq]
  generalize (lg_sl ([.ref h0, .int a0, .int a1]) ++ List.replicate (6 - (lg_sl ([.ref h0, .int a0, .int a1])).length) Slot.unset).toArray = ls at hl ⊢
  have hl : lv_has ls 6 [(0, .ref h0), (1, .int a0), (2, .int a1)] := hl
  dsimp only [mX3_pairsWith] at h
  refine lv_aload_n hx hb dX3_pairsWith_0 rfl (lv_at hl 0 rfl) ?_
  refine lv_iload_n hx hb dX3_pairsWith_1 rfl (lv_at hl 1 rfl) ?_
  refine lv_iload_n hx hb dX3_pairsWith_2 rfl (lv_at hl 2 rfl) ?_
  obtain ⟨r1, hr1, h⟩ := Option.bind_eq_some_iff.mp h
  have hPc := hP.sub (ws' := [(h0, .inr (3, [.ref h0_roots, .ref h0_strides, .ref h0_halvesFound])), (h0_roots, .inr (1, [.ref h0_roots_least, .int t_roots_prime])), (h0_roots_least, .inl (k_t_roots_least, 10007, .inl t_roots_least))]) [0, 1, 2] rfl
  have hDc := hD.sub (ws' := [(h0, .inr (3, [.ref h0_roots, .ref h0_strides, .ref h0_halvesFound])), (h0_roots, .inr (1, [.ref h0_roots_least, .int t_roots_prime])), (h0_roots_least, .inl (k_t_roots_least, 10007, .inl t_roots_least))]) [0, 1, 2] (by decide) rfl
  have hKc := hK.sub (tys' := [(k_t_roots_least, .int)]) [0] rfl
  have hFc := va_free (wc := [(h0, .inr (3, [.ref h0_roots, .ref h0_strides, .ref h0_halvesFound])), (h0_roots, .inr (1, [.ref h0_roots_least, .int t_roots_prime])), (h0_roots_least, .inl (k_t_roots_least, 10007, .inl t_roots_least))]) hD hS hA0 [0, 1, 2] rfl
  refine va_calli (va_runV (As := [.int a0, .int a1]) (rest := []) ⟨hx, hb, hml, hown, hts⟩ (ctX3_manyWithoutA l N dC dI _ h0 h0_roots h0_roots_least h0_strides h0_halvesFound k_t_roots_least t_roots_prime t_roots_least a0 a1 r1 hr1) (cwV 2 hts gX3_pairsWith_X3_manyWithoutA rfl rfl rfl (by decide +kernel) ⟨Nat.le_of_ble_eq_true rfl, Nat.le_of_ble_eq_true rfl⟩) ⟨fun a U g mk q => by obtain ⟨q0, q1, qP, qK, qN, qD⟩ := q; exact ⟨q0, q1, qP, va_K.moved (u := U) (U := U.calling g mk a) (Vm.Alike.refl U.vm) qK, nw_same (u := U) (U := U.calling g mk a) rfl qN, qD⟩, va_recv hKc hPc (ci := 3) (q0 := 0) rfl rfl, fun U hU hW => ⟨rfl, by rw [hU], by rw [hU]; exact hPc, va_K.moved hW.alike hKc, nw_warm hW hN, hDc.weaken (fun _ _ _ _ => trivial)⟩⟩ rfl rfl hl.1 rfl (lv_room (Nat.le_of_ble_eq_true rfl)) dX3_pairsWith_3 ⟨Nat.le_of_ble_eq_true rfl, Nat.le_of_ble_eq_true rfl⟩) hS (fun q _ h => hFc q h) hFc (fun rz u t H1 locs ht hvm hw hB1 hz1 hk1 hS => ?_)
  obtain ⟨u2, f3⟩ := u
  obtain ⟨hP1, hK1, hD1⟩ := hB1
  rw [ht] at hP1
  have hK1 := va_K.moved hvm.symm hK1
  obtain ⟨r4, rfl⟩ : ∃ z, z = rz := ⟨_, rfl⟩
  subst hw
  try dsimp only at h
  obtain ⟨hP, hD⟩ := va_join (wr := []) (w1 := [(h0, .inr (3, [.ref h0_roots, .ref h0_strides, .ref h0_halvesFound])), (h0_roots, .inr (1, [.ref h0_roots_least, .int u2])), (h0_roots_least, .inl (k_t_roots_least, 10007, .inl f3))]) hP hD [0, 1, 2] [] rfl rfl (by decide) (by decide) hk1 hFc hP1 hD1
  generalize H1 = H at hP hS ⊢
  have hP := hP.sub (ws' := [(h0, .inr (3, [.ref h0_roots, .ref h0_strides, .ref h0_halvesFound])), (h0_roots, .inr (1, [.ref h0_roots_least, .int u2])), (h0_roots_least, .inl (k_t_roots_least, 10007, .inl f3))]) [0, 1, 2] rfl
  have hD := hD.sub (ws' := [(h0, .inr (3, [.ref h0_roots, .ref h0_strides, .ref h0_halvesFound])), (h0_roots, .inr (1, [.ref h0_roots_least, .int u2])), (h0_roots_least, .inl (k_t_roots_least, 10007, .inl f3))]) [0, 1, 2] (by decide) rfl
  refine lv_aload_n hx hb dX3_pairsWith_6 rfl (lv_at hl 0 rfl) ?_
  refine lv_iload_n hx hb dX3_pairsWith_7 rfl (lv_at hl 1 rfl) ?_
  refine lv_iload_n hx hb dX3_pairsWith_8 rfl (lv_at hl 2 rfl) ?_
  obtain ⟨r5, hr5, h⟩ := Option.bind_eq_some_iff.mp h
  have hPc := hP.sub (ws' := [(h0, .inr (3, [.ref h0_roots, .ref h0_strides, .ref h0_halvesFound])), (h0_roots, .inr (1, [.ref h0_roots_least, .int u2])), (h0_roots_least, .inl (k_t_roots_least, 10007, .inl f3))]) [0, 1, 2] rfl
  have hDc := hD.sub (ws' := [(h0, .inr (3, [.ref h0_roots, .ref h0_strides, .ref h0_halvesFound])), (h0_roots, .inr (1, [.ref h0_roots_least, .int u2])), (h0_roots_least, .inl (k_t_roots_least, 10007, .inl f3))]) [0, 1, 2] (by decide) rfl
  have hKc := hK.sub (tys' := [(k_t_roots_least, .int)]) [0] rfl
  have hFc := va_free (wc := [(h0, .inr (3, [.ref h0_roots, .ref h0_strides, .ref h0_halvesFound])), (h0_roots, .inr (1, [.ref h0_roots_least, .int u2])), (h0_roots_least, .inl (k_t_roots_least, 10007, .inl f3))]) hD hS hA0 [0, 1, 2] rfl
  refine va_calli (va_runV (As := [.int a0, .int a1]) (rest := [.int r4]) ⟨hx, hb, hml, hown, hts⟩ (ctX3_manyWithoutB l N dC dI _ h0 h0_roots h0_roots_least h0_strides h0_halvesFound k_t_roots_least u2 f3 a0 a1 r5 hr5) (cwV 2 hts gX3_pairsWith_X3_manyWithoutB rfl rfl rfl (by decide +kernel) ⟨Nat.le_of_ble_eq_true rfl, Nat.le_of_ble_eq_true rfl⟩) ⟨fun a U g mk q => by obtain ⟨q0, q1, qP, qK, qN, qD⟩ := q; exact ⟨q0, q1, qP, va_K.moved (u := U) (U := U.calling g mk a) (Vm.Alike.refl U.vm) qK, nw_same (u := U) (U := U.calling g mk a) rfl qN, qD⟩, va_recv hKc hPc (ci := 3) (q0 := 0) rfl rfl, fun U hU hW => ⟨rfl, by rw [hU], by rw [hU]; exact hPc, va_K.moved hW.alike hKc, nw_warm hW hN, hDc.weaken (fun _ _ _ _ => trivial)⟩⟩ rfl rfl hl.1 rfl (lv_room (Nat.le_of_ble_eq_true rfl)) dX3_pairsWith_9 ⟨Nat.le_of_ble_eq_true rfl, Nat.le_of_ble_eq_true rfl⟩) hS (fun q _ h => hFc q h) hFc (fun rz u t H1 locs ht hvm hw hB1 hz1 hk1 hS => ?_)
  obtain ⟨u6, f7⟩ := u
  obtain ⟨hP1, hK1, hD1⟩ := hB1
  rw [ht] at hP1
  have hK1 := va_K.moved hvm.symm hK1
  obtain ⟨r8, rfl⟩ : ∃ z, z = rz := ⟨_, rfl⟩
  subst hw
  try dsimp only at h
  obtain ⟨hP, hD⟩ := va_join (wr := []) (w1 := [(h0, .inr (3, [.ref h0_roots, .ref h0_strides, .ref h0_halvesFound])), (h0_roots, .inr (1, [.ref h0_roots_least, .int u6])), (h0_roots_least, .inl (k_t_roots_least, 10007, .inl f7))]) hP hD [0, 1, 2] [] rfl rfl (by decide) (by decide) hk1 hFc hP1 hD1
  generalize H1 = H at hP hS ⊢
  have hP := hP.sub (ws' := [(h0, .inr (3, [.ref h0_roots, .ref h0_strides, .ref h0_halvesFound])), (h0_roots, .inr (1, [.ref h0_roots_least, .int u6])), (h0_roots_least, .inl (k_t_roots_least, 10007, .inl f7))]) [0, 1, 2] rfl
  have hD := hD.sub (ws' := [(h0, .inr (3, [.ref h0_roots, .ref h0_strides, .ref h0_halvesFound])), (h0_roots, .inr (1, [.ref h0_roots_least, .int u6])), (h0_roots_least, .inl (k_t_roots_least, 10007, .inl f7))]) [0, 1, 2] (by decide) rfl
  refine lv_iadd hx hb dX3_pairsWith_12 ?_
  refine lv_topi (fun v9 ev9 => ?_)
  replace h := mi_use ev9 h
  refine lv_istore_n (lv' := [(3, .int v9), (0, .ref h0), (1, .int a0), (2, .int a1)]) hx hb dX3_pairsWith_13 rfl hl (by decide) rfl (fun ls hl => ?_)
  refine lv_iconst (v := 1) hx hb dX3_pairsWith_14 (by decide) ?_
  refine lv_istore (lv' := [(4, .int 1), (3, .int v9), (0, .ref h0), (1, .int a0), (2, .int a1)]) hx hb dX3_pairsWith_15 hl (by decide) rfl (fun ls hl => ?_)
  have L17 : ∀ (n : Nat) (x10 : Int32) (x11 : Int32) (x12 : Int32) (x13 : Nat → Int32) (o : Int32 × Int32 × Int32 × (Nat → Int32)), mi_run (mX3_pairsWith_b17 N a0 a1) n (x10, x11, x12, x13) = some o → (∀ (y14 : Int32) (y15 : Int32) (y16 : Int32) (y17 : Nat → Int32), o = (y14, y15, y16, y17) → ∀ (H : Heap) (locs : List Loc) (ls : Array Slot), va_P (dC, dI) vwCl [(h0, .inr (3, [.ref h0_roots, .ref h0_strides, .ref h0_halvesFound])), (h0_roots, .inr (1, [.ref h0_roots_least, .int y16])), (h0_roots_least, .inl (k_t_roots_least, 10007, .inl y17))] H → va_D A [(h0, .inr (3, [.ref h0_roots, .ref h0_strides, .ref h0_halvesFound])), (h0_roots, .inr (1, [.ref h0_roots_least, .int y16])), (h0_roots_least, .inl (k_t_roots_least, 10007, .inl y17))] → va_S A s.heap H locs → lv_has ls 6 [(3, .int y14), (4, .int y15), (0, .ref h0), (1, .int a0), (2, .int a1)] → W p l e (headSpec wsX3_pairsWith rmX3_pairsWith).room s m (([.ref h0, .int a0, .int a1] : List Value).toArray) below meth c H locs 0 0 (MQ below (va_Qi (fun (r : Int32) (u : Int32 × (Nat → Int32)) => (r, u) = rr) (fun (u : Int32 × (Nat → Int32)) t => match u with | (u0, u1) => va_P (dC, dI) vwCl [(h0, .inr (3, [.ref h0_roots, .ref h0_strides, .ref h0_halvesFound])), (h0_roots, .inr (1, [.ref h0_roots_least, .int u0])), (h0_roots_least, .inl (k_t_roots_least, 10007, .inl u1))] t.heap ∧ va_K (dC, dI) vwCl [(k_t_roots_least, .int)] t ∧ va_D (A) [(h0, .inr (3, [.ref h0_roots, .ref h0_strides, .ref h0_halvesFound])), (h0_roots, .inr (1, [.ref h0_roots_least, .int u0])), (h0_roots_least, .inl (k_t_roots_least, 10007, .inl u1))]) (A)) (([.ref h0, .int a0, .int a1] : List Value).toArray) s 0 0 A) (F0 m 92 ls [])) → ∀ (H : Heap) (locs : List Loc) (ls : Array Slot), va_P (dC, dI) vwCl [(h0, .inr (3, [.ref h0_roots, .ref h0_strides, .ref h0_halvesFound])), (h0_roots, .inr (1, [.ref h0_roots_least, .int x12])), (h0_roots_least, .inl (k_t_roots_least, 10007, .inl x13))] H → va_D A [(h0, .inr (3, [.ref h0_roots, .ref h0_strides, .ref h0_halvesFound])), (h0_roots, .inr (1, [.ref h0_roots_least, .int x12])), (h0_roots_least, .inl (k_t_roots_least, 10007, .inl x13))] → va_S A s.heap H locs → lv_has ls 6 [(3, .int x10), (4, .int x11), (0, .ref h0), (1, .int a0), (2, .int a1)] → W p l e (headSpec wsX3_pairsWith rmX3_pairsWith).room s m (([.ref h0, .int a0, .int a1] : List Value).toArray) below meth c H locs 0 0 (MQ below (va_Qi (fun (r : Int32) (u : Int32 × (Nat → Int32)) => (r, u) = rr) (fun (u : Int32 × (Nat → Int32)) t => match u with | (u0, u1) => va_P (dC, dI) vwCl [(h0, .inr (3, [.ref h0_roots, .ref h0_strides, .ref h0_halvesFound])), (h0_roots, .inr (1, [.ref h0_roots_least, .int u0])), (h0_roots_least, .inl (k_t_roots_least, 10007, .inl u1))] t.heap ∧ va_K (dC, dI) vwCl [(k_t_roots_least, .int)] t ∧ va_D (A) [(h0, .inr (3, [.ref h0_roots, .ref h0_strides, .ref h0_halvesFound])), (h0_roots, .inr (1, [.ref h0_roots_least, .int u0])), (h0_roots_least, .inl (k_t_roots_least, 10007, .inl u1))]) (A)) (([.ref h0, .int a0, .int a1] : List Value).toArray) s 0 0 A) (F0 m 17 ls []) := by
    intro n
    induction n with
    | zero => intro x10 x11 x12 x13 o h; exact absurd h (mi_run_0 _ _ _)
    | succ n ih =>
      intro x10 x11 x12 x13 o h hkE H locs ls hP hD hS hl
      obtain ⟨w, h, hA, hB⟩ := mi_run_s h
      dsimp only [mX3_pairsWith_b17] at h
      refine lv_iload hx hb dX3_pairsWith_17 (lv_at hl 1 rfl) ?_
      refine lv_iload_n hx hb dX3_pairsWith_19 rfl (lv_at hl 3 rfl) ?_
      refine lv_iconst (v := 1) hx hb dX3_pairsWith_20 (by decide) ?_
      refine lv_isub hx hb dX3_pairsWith_21 ?_
      refine lv_icmp_ge (tgt := 92) hx hb dX3_pairsWith_22 (by decide) (fun c18 => ?_) (fun c18 => ?_)
      · replace h := (if_pos c18).symm.trans h
        exact hkE _ _ _ _ (hB _ (Option.some.inj h).symm) _ _ ls hP hD hS (lv_sub hl [0, 1, 2, 3, 4] rfl)
      · replace h := (if_neg c18).symm.trans h
        refine lv_aload_n hx hb dX3_pairsWith_25 rfl (lv_at hl 2 rfl) ?_
        refine lv_iload_n hx hb dX3_pairsWith_26 rfl (lv_at hl 3 rfl) ?_
        refine lv_iconst (v := 3) hx hb dX3_pairsWith_27 (by decide) ?_
        refine lv_iload hx hb dX3_pairsWith_28 (lv_at hl 1 rfl) ?_
        refine lv_imul hx hb dX3_pairsWith_30 ?_
        refine lv_iload_n hx hb dX3_pairsWith_31 rfl (lv_at hl 3 rfl) ?_
        have hn19 : ¬ a0 = 0 := fun hz => absurd ((if_pos hz).symm.trans h) (fun hh => nomatch hh)
        replace h := (if_neg hn19).symm.trans h
        refine lv_irem hx hb dX3_pairsWith_32 hn19 ?_
        refine lv_topi (fun v20 ev20 => ?_)
        replace h := mi_use ev20 h
        refine lv_iconst (v := 2) hx hb dX3_pairsWith_33 (by decide) ?_
        refine lv_iload hx hb dX3_pairsWith_34 (lv_at hl 1 rfl) ?_
        refine lv_imul hx hb dX3_pairsWith_36 ?_
        refine lv_iload_n hx hb dX3_pairsWith_37 rfl (lv_at hl 3 rfl) ?_
        have hn21 : ¬ a0 = 0 := fun hz => absurd ((if_pos hz).symm.trans h) (fun hh => nomatch hh)
        replace h := (if_neg hn21).symm.trans h
        refine lv_irem hx hb dX3_pairsWith_38 hn21 ?_
        refine lv_topi (fun v22 ev22 => ?_)
        replace h := mi_use ev22 h
        obtain ⟨r23, hr23, h⟩ := Option.bind_eq_some_iff.mp h
        have hPc := hP.sub (ws' := [(h0, .inr (3, [.ref h0_roots, .ref h0_strides, .ref h0_halvesFound])), (h0_roots, .inr (1, [.ref h0_roots_least, .int x12])), (h0_roots_least, .inl (k_t_roots_least, 10007, .inl x13))]) [0, 1, 2] rfl
        have hDc := hD.sub (ws' := [(h0, .inr (3, [.ref h0_roots, .ref h0_strides, .ref h0_halvesFound])), (h0_roots, .inr (1, [.ref h0_roots_least, .int x12])), (h0_roots_least, .inl (k_t_roots_least, 10007, .inl x13))]) [0, 1, 2] (by decide) rfl
        have hKc := hK.sub (tys' := [(k_t_roots_least, .int)]) [0] rfl
        have hFc := va_free (wc := [(h0, .inr (3, [.ref h0_roots, .ref h0_strides, .ref h0_halvesFound])), (h0_roots, .inr (1, [.ref h0_roots_least, .int x12])), (h0_roots_least, .inl (k_t_roots_least, 10007, .inl x13))]) hD hS hA0 [0, 1, 2] rfl
        refine va_calli (va_runV (As := [.int a0, .int v20, .int v22]) (rest := []) ⟨hx, hb, hml, hown, hts⟩ (ctX3_manyPoints l N dC dI _ h0 h0_roots h0_roots_least h0_strides h0_halvesFound k_t_roots_least x12 x13 a0 v20 v22 r23 hr23) (cwV 3 hts gX3_pairsWith_X3_manyPoints rfl rfl rfl (by decide +kernel) ⟨Nat.le_of_ble_eq_true rfl, Nat.le_of_ble_eq_true rfl⟩) ⟨fun a U g mk q => by obtain ⟨q0, q1, qP, qK, qN, qD⟩ := q; exact ⟨q0, q1, qP, va_K.moved (u := U) (U := U.calling g mk a) (Vm.Alike.refl U.vm) qK, nw_same (u := U) (U := U.calling g mk a) rfl qN, qD⟩, va_recv hKc hPc (ci := 3) (q0 := 0) rfl rfl, fun U hU hW => ⟨rfl, by rw [hU], by rw [hU]; exact hPc, va_K.moved hW.alike hKc, nw_warm hW hN, hDc.weaken (fun _ _ _ _ => trivial)⟩⟩ rfl rfl hl.1 rfl (lv_room (Nat.le_of_ble_eq_true rfl)) dX3_pairsWith_39 ⟨Nat.le_of_ble_eq_true rfl, Nat.le_of_ble_eq_true rfl⟩) hS (fun q _ h => hFc q h) hFc (fun rz u t H1 locs ht hvm hw hB1 hz1 hk1 hS => ?_)
        obtain ⟨u24, f25⟩ := u
        obtain ⟨hP1, hK1, hD1⟩ := hB1
        rw [ht] at hP1
        have hK1 := va_K.moved hvm.symm hK1
        obtain ⟨r26, rfl⟩ : ∃ z, z = rz := ⟨_, rfl⟩
        subst hw
        try dsimp only at h
        obtain ⟨hP, hD⟩ := va_join (wr := []) (w1 := [(h0, .inr (3, [.ref h0_roots, .ref h0_strides, .ref h0_halvesFound])), (h0_roots, .inr (1, [.ref h0_roots_least, .int u24])), (h0_roots_least, .inl (k_t_roots_least, 10007, .inl f25))]) hP hD [0, 1, 2] [] rfl rfl (by decide) (by decide) hk1 hFc hP1 hD1
        generalize H1 = H at hP hS ⊢
        have hP := hP.sub (ws' := [(h0, .inr (3, [.ref h0_roots, .ref h0_strides, .ref h0_halvesFound])), (h0_roots, .inr (1, [.ref h0_roots_least, .int u24])), (h0_roots_least, .inl (k_t_roots_least, 10007, .inl f25))]) [0, 1, 2] rfl
        have hD := hD.sub (ws' := [(h0, .inr (3, [.ref h0_roots, .ref h0_strides, .ref h0_halvesFound])), (h0_roots, .inr (1, [.ref h0_roots_least, .int u24])), (h0_roots_least, .inl (k_t_roots_least, 10007, .inl f25))]) [0, 1, 2] (by decide) rfl
        refine lv_istore (lv' := [(5, .int r26), (3, .int x10), (4, .int x11), (0, .ref h0), (1, .int a0), (2, .int a1)]) hx hb dX3_pairsWith_42 hl (by decide) rfl (fun ls hl => ?_)
        refine lv_iload_n hx hb dX3_pairsWith_44 rfl (lv_at hl 1 rfl) ?_
        refine lv_iload hx hb dX3_pairsWith_45 (lv_at hl 0 rfl) ?_
        refine lv_iload_n hx hb dX3_pairsWith_47 rfl (lv_at hl 5 rfl) ?_
        refine lv_icmp_ne (tgt := 59) hx hb dX3_pairsWith_48 (by decide) (fun c27 => ?_) (fun c27 => ?_)
        · replace h := (if_neg c27).symm.trans h
          refine lv_iconst (v := 0) hx hb dX3_pairsWith_59 (by decide) ?_
          refine lv_iadd hx hb dX3_pairsWith_60 ?_
          refine lv_topi (fun v28 ev28 => ?_)
          replace h := mi_use ev28 h
          refine lv_istore_n (lv' := [(3, .int v28), (5, .int r26), (4, .int x11), (0, .ref h0), (1, .int a0), (2, .int a1)]) hx hb dX3_pairsWith_61 rfl hl (by decide) rfl (fun ls hl => ?_)
          refine lv_iload_n hx hb dX3_pairsWith_62 rfl (lv_at hl 0 rfl) ?_
          refine lv_iconst (v := 2) hx hb dX3_pairsWith_63 (by decide) ?_
          refine lv_iload_n hx hb dX3_pairsWith_64 rfl (lv_at hl 4 rfl) ?_
          refine lv_imul hx hb dX3_pairsWith_65 ?_
          refine lv_iconst (v := 2) hx hb dX3_pairsWith_66 (by decide) ?_
          refine lv_iadd hx hb dX3_pairsWith_67 ?_
          refine lv_iload hx hb dX3_pairsWith_68 (lv_at hl 1 rfl) ?_
          refine lv_isub hx hb dX3_pairsWith_70 ?_
          refine lv_iload_n hx hb dX3_pairsWith_71 rfl (lv_at hl 5 rfl) ?_
          refine lv_icmp_ne (tgt := 83) hx hb dX3_pairsWith_72 (by decide) (fun c29 => ?_) (fun c29 => ?_)
          · replace h := (if_neg c29).symm.trans h
            refine lv_iconst (v := 0) hx hb dX3_pairsWith_83 (by decide) ?_
            refine lv_iadd hx hb dX3_pairsWith_84 ?_
            refine lv_topi (fun v30 ev30 => ?_)
            replace h := mi_use ev30 h
            refine lv_istore_n (lv' := [(3, .int v30), (5, .int r26), (4, .int x11), (0, .ref h0), (1, .int a0), (2, .int a1)]) hx hb dX3_pairsWith_85 rfl hl (by decide) rfl (fun ls hl => ?_)
            obtain ⟨v31, ev31⟩ : ∃ z : Int32, z = x11 + 1 := ⟨_, rfl⟩
            refine lv_iinc (v := v31) (lv' := [(4, .int v31), (3, .int v30), (5, .int r26), (0, .ref h0), (1, .int a0), (2, .int a1)]) hx hb dX3_pairsWith_86 hl (k := 2) rfl (by rw [ev31]; rfl) (by decide) rfl (fun ls hl => ?_)
            replace h := mi_use ev31 h
            refine lv_goto (tgt := 17) hx hb dX3_pairsWith_89 (by decide) ?_
            exact ih _ _ _ _ _ (hA _ (Option.some.inj h).symm) hkE _ _ ls hP hD hS (lv_sub hl [1, 0, 3, 4, 5] rfl)
          · replace h := (if_pos c29).symm.trans h
            refine lv_iload_n hx hb dX3_pairsWith_75 rfl (lv_at hl 4 rfl) ?_
            refine lv_iconst (v := 1) hx hb dX3_pairsWith_76 (by decide) ?_
            refine lv_isub hx hb dX3_pairsWith_77 ?_
            refine lv_iconst (v := 2) hx hb dX3_pairsWith_78 (by decide) ?_
            refine lv_idiv hx hb dX3_pairsWith_79 (by decide) ?_
            refine lv_topi (fun v32 ev32 => ?_)
            replace h := mi_use ev32 h
            refine lv_goto (tgt := 84) hx hb dX3_pairsWith_80 (by decide) ?_
            refine lv_iadd hx hb dX3_pairsWith_84 ?_
            refine lv_topi (fun v33 ev33 => ?_)
            replace h := mi_use ev33 h
            refine lv_istore_n (lv' := [(3, .int v33), (5, .int r26), (4, .int x11), (0, .ref h0), (1, .int a0), (2, .int a1)]) hx hb dX3_pairsWith_85 rfl hl (by decide) rfl (fun ls hl => ?_)
            obtain ⟨v34, ev34⟩ : ∃ z : Int32, z = x11 + 1 := ⟨_, rfl⟩
            refine lv_iinc (v := v34) (lv' := [(4, .int v34), (3, .int v33), (5, .int r26), (0, .ref h0), (1, .int a0), (2, .int a1)]) hx hb dX3_pairsWith_86 hl (k := 2) rfl (by rw [ev34]; rfl) (by decide) rfl (fun ls hl => ?_)
            replace h := mi_use ev34 h
            refine lv_goto (tgt := 17) hx hb dX3_pairsWith_89 (by decide) ?_
            exact ih _ _ _ _ _ (hA _ (Option.some.inj h).symm) hkE _ _ ls hP hD hS (lv_sub hl [1, 0, 3, 4, 5] rfl)
        · replace h := (if_pos c27).symm.trans h
          refine lv_iload_n hx hb dX3_pairsWith_51 rfl (lv_at hl 4 rfl) ?_
          refine lv_iconst (v := 1) hx hb dX3_pairsWith_52 (by decide) ?_
          refine lv_isub hx hb dX3_pairsWith_53 ?_
          refine lv_iconst (v := 2) hx hb dX3_pairsWith_54 (by decide) ?_
          refine lv_idiv hx hb dX3_pairsWith_55 (by decide) ?_
          refine lv_topi (fun v35 ev35 => ?_)
          replace h := mi_use ev35 h
          refine lv_goto (tgt := 60) hx hb dX3_pairsWith_56 (by decide) ?_
          refine lv_iadd hx hb dX3_pairsWith_60 ?_
          refine lv_topi (fun v36 ev36 => ?_)
          replace h := mi_use ev36 h
          refine lv_istore_n (lv' := [(3, .int v36), (5, .int r26), (4, .int x11), (0, .ref h0), (1, .int a0), (2, .int a1)]) hx hb dX3_pairsWith_61 rfl hl (by decide) rfl (fun ls hl => ?_)
          refine lv_iload_n hx hb dX3_pairsWith_62 rfl (lv_at hl 0 rfl) ?_
          refine lv_iconst (v := 2) hx hb dX3_pairsWith_63 (by decide) ?_
          refine lv_iload_n hx hb dX3_pairsWith_64 rfl (lv_at hl 4 rfl) ?_
          refine lv_imul hx hb dX3_pairsWith_65 ?_
          refine lv_iconst (v := 2) hx hb dX3_pairsWith_66 (by decide) ?_
          refine lv_iadd hx hb dX3_pairsWith_67 ?_
          refine lv_iload hx hb dX3_pairsWith_68 (lv_at hl 1 rfl) ?_
          refine lv_isub hx hb dX3_pairsWith_70 ?_
          refine lv_iload_n hx hb dX3_pairsWith_71 rfl (lv_at hl 5 rfl) ?_
          refine lv_icmp_ne (tgt := 83) hx hb dX3_pairsWith_72 (by decide) (fun c37 => ?_) (fun c37 => ?_)
          · replace h := (if_neg c37).symm.trans h
            refine lv_iconst (v := 0) hx hb dX3_pairsWith_83 (by decide) ?_
            refine lv_iadd hx hb dX3_pairsWith_84 ?_
            refine lv_topi (fun v38 ev38 => ?_)
            replace h := mi_use ev38 h
            refine lv_istore_n (lv' := [(3, .int v38), (5, .int r26), (4, .int x11), (0, .ref h0), (1, .int a0), (2, .int a1)]) hx hb dX3_pairsWith_85 rfl hl (by decide) rfl (fun ls hl => ?_)
            obtain ⟨v39, ev39⟩ : ∃ z : Int32, z = x11 + 1 := ⟨_, rfl⟩
            refine lv_iinc (v := v39) (lv' := [(4, .int v39), (3, .int v38), (5, .int r26), (0, .ref h0), (1, .int a0), (2, .int a1)]) hx hb dX3_pairsWith_86 hl (k := 2) rfl (by rw [ev39]; rfl) (by decide) rfl (fun ls hl => ?_)
            replace h := mi_use ev39 h
            refine lv_goto (tgt := 17) hx hb dX3_pairsWith_89 (by decide) ?_
            exact ih _ _ _ _ _ (hA _ (Option.some.inj h).symm) hkE _ _ ls hP hD hS (lv_sub hl [1, 0, 3, 4, 5] rfl)
          · replace h := (if_pos c37).symm.trans h
            refine lv_iload_n hx hb dX3_pairsWith_75 rfl (lv_at hl 4 rfl) ?_
            refine lv_iconst (v := 1) hx hb dX3_pairsWith_76 (by decide) ?_
            refine lv_isub hx hb dX3_pairsWith_77 ?_
            refine lv_iconst (v := 2) hx hb dX3_pairsWith_78 (by decide) ?_
            refine lv_idiv hx hb dX3_pairsWith_79 (by decide) ?_
            refine lv_topi (fun v40 ev40 => ?_)
            replace h := mi_use ev40 h
            refine lv_goto (tgt := 84) hx hb dX3_pairsWith_80 (by decide) ?_
            refine lv_iadd hx hb dX3_pairsWith_84 ?_
            refine lv_topi (fun v41 ev41 => ?_)
            replace h := mi_use ev41 h
            refine lv_istore_n (lv' := [(3, .int v41), (5, .int r26), (4, .int x11), (0, .ref h0), (1, .int a0), (2, .int a1)]) hx hb dX3_pairsWith_85 rfl hl (by decide) rfl (fun ls hl => ?_)
            obtain ⟨v42, ev42⟩ : ∃ z : Int32, z = x11 + 1 := ⟨_, rfl⟩
            refine lv_iinc (v := v42) (lv' := [(4, .int v42), (3, .int v41), (5, .int r26), (0, .ref h0), (1, .int a0), (2, .int a1)]) hx hb dX3_pairsWith_86 hl (k := 2) rfl (by rw [ev42]; rfl) (by decide) rfl (fun ls hl => ?_)
            replace h := mi_use ev42 h
            refine lv_goto (tgt := 17) hx hb dX3_pairsWith_89 (by decide) ?_
            exact ih _ _ _ _ _ (hA _ (Option.some.inj h).symm) hkE _ _ ls hP hD hS (lv_sub hl [1, 0, 3, 4, 5] rfl)
  obtain ⟨o43, ho43, h⟩ := Option.bind_eq_some_iff.mp h
  refine L17 N _ _ _ _ o43 ho43 ?_ _ _ ls hP hD hS (lv_sub hl [1, 0, 2, 3, 4] rfl)
  intro y14 y15 y16 y17 eo H locs ls hP hD hS hl
  subst eo
  try dsimp only at h
  refine lv_iload_n hx hb dX3_pairsWith_92 rfl (lv_at hl 0 rfl) ?_
  have hv : (y14, y16, y17) = rr := Option.some.inj h
  have hP9 := hP.sub (ws' := [(h0, .inr (3, [.ref h0_roots, .ref h0_strides, .ref h0_halvesFound])), (h0_roots, .inr (1, [.ref h0_roots_least, .int y16])), (h0_roots_least, .inl (k_t_roots_least, 10007, .inl y17))]) [0, 1, 2] rfl
  have hD9 := hD.sub (ws' := [(h0, .inr (3, [.ref h0_roots, .ref h0_strides, .ref h0_halvesFound])), (h0_roots, .inr (1, [.ref h0_roots_least, .int y16])), (h0_roots_least, .inl (k_t_roots_least, 10007, .inl y17))]) [0, 1, 2] (by decide) rfl
  have hK9 := hK.sub (tys' := [(k_t_roots_least, .int)]) [0] rfl
  exact W.iret (v := y14) hx hb hr (fun t ht hW => ⟨⟨y14, (y16, y17), rfl, hv, by rw [ht]; exact hP9, va_K.moved hW.alike hK9, hD9⟩, hS.F ht⟩) hS.2.2 dX3_pairsWith_93
