def mX3_manyPoints_b6 (N : Nat) (a0 : Int32) (a1 : Int32) (a2 : Int32) (st : Int32 × Int32 × Int32 × (Nat → Int32)) : Option ((Int32 × Int32 × Int32 × (Nat → Int32)) ⊕ (Int32 × Int32 × Int32 × (Nat → Int32))) :=
  match st with
  | (x1, x2, x3, x4) => if a0 ≤ x2 then some (.inr (x1, x2, x3, x4)) else if a0 = 0 then none else mi_let (mi_rem ((x2 * x2) + a1) a0) (fun v11 => if a0 = 0 then none else mi_let (mi_rem ((v11 * x2) + a2) a0) (fun v13 => (mX3_manyAt N x3 x4 v13 a0).bind (fun r14 => match r14 with | (r17, u15, f16) => mi_let (x1 + r17) (fun v18 => mi_let (x2 + 1) (fun v19 => some (.inl (v18, v19, u15, f16)))))))
def mX3_manyPoints (N : Nat) (t_roots_prime : Int32) (t_roots_least : Nat → Int32) (a0 : Int32) (a1 : Int32) (a2 : Int32) : Option (Int32 × Int32 × (Nat → Int32)) := (mi_run (mX3_manyPoints_b6 N a0 a1 a2) N (1, 0, t_roots_prime, t_roots_least)).bind (fun o20 => match o20 with | (y5, y6, y7, y8) => some (y5, y7, y8))
abbrev rmX3_manyPoints : Room := { frames := 3, cells := 0, slots := 0, locals := 66 }
set_option maxHeartbeats 4000000 in
set_option maxRecDepth 100000 in
theorem ctX3_manyPoints (l : Launch) (N : Nat) (dC : Nat → ClassId) (dI : Nat → Nat → Nat) (sz : Nat) (h0 : Nat) (h0_roots : Nat) (h0_roots_least : Nat) (h0_strides : Nat) (h0_halvesFound : Nat) (k_t_roots_least : ClassId) (t_roots_prime : Int32) (t_roots_least : Nat → Int32) (a0 : Int32) (a1 : Int32) (a2 : Int32) (rr : Int32 × Int32 × (Nat → Int32)) (h : mX3_manyPoints N t_roots_prime t_roots_least a0 a1 a2 = some rr) : Met l yX3_manyPoints wsX3_manyPoints rmX3_manyPoints (va_Pc [.ref h0, .int a0, .int a1, .int a2] (fun U => U.heap.size = sz ∧ va_P (dC, dI) vwCl [(h0, .inr (3, [.ref h0_roots, .ref h0_strides, .ref h0_halvesFound])), (h0_roots, .inr (1, [.ref h0_roots_least, .int t_roots_prime])), (h0_roots_least, .inl (k_t_roots_least, 10007, .inl t_roots_least))] U.heap ∧ va_K (dC, dI) vwCl [(k_t_roots_least, .int)] U ∧ nw_all U ∧ va_D (fun _ => True) [(h0, .inr (3, [.ref h0_roots, .ref h0_strides, .ref h0_halvesFound])), (h0_roots, .inr (1, [.ref h0_roots_least, .int t_roots_prime])), (h0_roots_least, .inl (k_t_roots_least, 10007, .inl t_roots_least))])) (va_Qi (fun (r : Int32) (u : Int32 × (Nat → Int32)) => (r, u) = rr) (fun (u : Int32 × (Nat → Int32)) t => match u with | (u0, u1) => va_P (dC, dI) vwCl [(h0, .inr (3, [.ref h0_roots, .ref h0_strides, .ref h0_halvesFound])), (h0_roots, .inr (1, [.ref h0_roots_least, .int u0])), (h0_roots_least, .inl (k_t_roots_least, 10007, .inl u1))] t.heap ∧ va_K (dC, dI) vwCl [(k_t_roots_least, .int)] t ∧ va_D (va_A [(h0, .inr (3, [.ref h0_roots, .ref h0_strides, .ref h0_halvesFound])), (h0_roots, .inr (1, [.ref h0_roots_least, .int t_roots_prime])), (h0_roots_least, .inl (k_t_roots_least, 10007, .inl t_roots_least))] sz) [(h0, .inr (3, [.ref h0_roots, .ref h0_strides, .ref h0_halvesFound])), (h0_roots, .inr (1, [.ref h0_roots_least, .int u0])), (h0_roots_least, .inl (k_t_roots_least, 10007, .inl u1))]) (va_A [(h0, .inr (3, [.ref h0_roots, .ref h0_strides, .ref h0_halvesFound])), (h0_roots, .inr (1, [.ref h0_roots_least, .int t_roots_prime])), (h0_roots_least, .inl (k_t_roots_least, 10007, .inl t_roots_least))] sz)) 0 0 (va_A [(h0, .inr (3, [.ref h0_roots, .ref h0_strides, .ref h0_halvesFound])), (h0_roots, .inr (1, [.ref h0_roots_least, .int t_roots_prime])), (h0_roots_least, .inl (k_t_roots_least, 10007, .inl t_roots_least))] sz) := by
  refine Met.ofW (cc := cX3_manyPoints) (maxL := 6) (ret := (some .int)) (by decide) rfl ?_
  intro p e s m args below meth c s₁ B hml hv
  obtain ⟨rfl, hsz, hP, hK, hN, hD0⟩ := hv
  have hx := B.exec
  have hb := B.bytes
  have hr := B.returns
  have hts := atoms_spec (ws := wsX3_manyPoints) B.pre
  have hown : s.vm.findClass RX3 = some m.cls := findClass_of_methodNamed B.named
  have hlocks := B.notSynchronized
  subst hsz
  have hD := hD0.self (sz := s.heap.size)
  generalize hAe : va_A [(h0, .inr (3, [.ref h0_roots, .ref h0_strides, .ref h0_halvesFound])), (h0_roots, .inr (1, [.ref h0_roots_least, .int t_roots_prime])), (h0_roots_least, .inl (k_t_roots_least, 10007, .inl t_roots_least))] s.heap.size = A at hD ⊢
  have hA0 : ∀ q : Nat, s.heap.size ≤ q → A q := fun q h => by rw [← hAe]; exact Or.inr h
  have hS : va_S A s.heap s.heap [] := va_S.rf
  have hP : va_P (dC, dI) vwCl [(h0, .inr (3, [.ref h0_roots, .ref h0_strides, .ref h0_halvesFound])), (h0_roots, .inr (1, [.ref h0_roots_least, .int t_roots_prime])), (h0_roots_least, .inl (k_t_roots_least, 10007, .inl t_roots_least))] s.heap := hP
  have hl := lv_entry ([.ref h0, .int a0, .int a1, .int a2]) (n := 6) (Nat.le_of_ble_eq_true rfl)
  rw [lg_entry_eq]
  generalize (lg_sl ([.ref h0, .int a0, .int a1, .int a2]) ++ List.replicate (6 - (lg_sl ([.ref h0, .int a0, .int a1, .int a2])).length) Slot.unset).toArray = ls at hl ⊢
  have hl : lv_has ls 6 [(0, .ref h0), (1, .int a0), (2, .int a1), (3, .int a2)] := hl
  dsimp only [mX3_manyPoints] at h
  refine lv_iconst (v := 1) hx hb dX3_manyPoints_0 (by decide) ?_
  refine lv_istore (lv' := [(4, .int 1), (0, .ref h0), (1, .int a0), (2, .int a1), (3, .int a2)]) hx hb dX3_manyPoints_1 hl (by decide) rfl (fun ls hl => ?_)
  refine lv_iconst (v := 0) hx hb dX3_manyPoints_3 (by decide) ?_
  refine lv_istore (lv' := [(5, .int 0), (4, .int 1), (0, .ref h0), (1, .int a0), (2, .int a1), (3, .int a2)]) hx hb dX3_manyPoints_4 hl (by decide) rfl (fun ls hl => ?_)
  have L6 : ∀ (n : Nat) (x1 : Int32) (x2 : Int32) (x3 : Int32) (x4 : Nat → Int32) (o : Int32 × Int32 × Int32 × (Nat → Int32)), mi_run (mX3_manyPoints_b6 N a0 a1 a2) n (x1, x2, x3, x4) = some o → (∀ (y5 : Int32) (y6 : Int32) (y7 : Int32) (y8 : Nat → Int32), o = (y5, y6, y7, y8) → ∀ (H : Heap) (locs : List Loc) (ls : Array Slot), va_P (dC, dI) vwCl [(h0, .inr (3, [.ref h0_roots, .ref h0_strides, .ref h0_halvesFound])), (h0_roots, .inr (1, [.ref h0_roots_least, .int y7])), (h0_roots_least, .inl (k_t_roots_least, 10007, .inl y8))] H → va_D A [(h0, .inr (3, [.ref h0_roots, .ref h0_strides, .ref h0_halvesFound])), (h0_roots, .inr (1, [.ref h0_roots_least, .int y7])), (h0_roots_least, .inl (k_t_roots_least, 10007, .inl y8))] → va_S A s.heap H locs → lv_has ls 6 [(4, .int y5), (5, .int y6), (0, .ref h0), (1, .int a0), (2, .int a1), (3, .int a2)] → W p l e (headSpec wsX3_manyPoints rmX3_manyPoints).room s m (([.ref h0, .int a0, .int a1, .int a2] : List Value).toArray) below meth c H locs 0 0 (MQ below (va_Qi (fun (r : Int32) (u : Int32 × (Nat → Int32)) => (r, u) = rr) (fun (u : Int32 × (Nat → Int32)) t => match u with | (u0, u1) => va_P (dC, dI) vwCl [(h0, .inr (3, [.ref h0_roots, .ref h0_strides, .ref h0_halvesFound])), (h0_roots, .inr (1, [.ref h0_roots_least, .int u0])), (h0_roots_least, .inl (k_t_roots_least, 10007, .inl u1))] t.heap ∧ va_K (dC, dI) vwCl [(k_t_roots_least, .int)] t ∧ va_D (A) [(h0, .inr (3, [.ref h0_roots, .ref h0_strides, .ref h0_halvesFound])), (h0_roots, .inr (1, [.ref h0_roots_least, .int u0])), (h0_roots_least, .inl (k_t_roots_least, 10007, .inl u1))]) (A)) (([.ref h0, .int a0, .int a1, .int a2] : List Value).toArray) s 0 0 A) (F0 m 44 ls [])) → ∀ (H : Heap) (locs : List Loc) (ls : Array Slot), va_P (dC, dI) vwCl [(h0, .inr (3, [.ref h0_roots, .ref h0_strides, .ref h0_halvesFound])), (h0_roots, .inr (1, [.ref h0_roots_least, .int x3])), (h0_roots_least, .inl (k_t_roots_least, 10007, .inl x4))] H → va_D A [(h0, .inr (3, [.ref h0_roots, .ref h0_strides, .ref h0_halvesFound])), (h0_roots, .inr (1, [.ref h0_roots_least, .int x3])), (h0_roots_least, .inl (k_t_roots_least, 10007, .inl x4))] → va_S A s.heap H locs → lv_has ls 6 [(4, .int x1), (5, .int x2), (0, .ref h0), (1, .int a0), (2, .int a1), (3, .int a2)] → W p l e (headSpec wsX3_manyPoints rmX3_manyPoints).room s m (([.ref h0, .int a0, .int a1, .int a2] : List Value).toArray) below meth c H locs 0 0 (MQ below (va_Qi (fun (r : Int32) (u : Int32 × (Nat → Int32)) => (r, u) = rr) (fun (u : Int32 × (Nat → Int32)) t => match u with | (u0, u1) => va_P (dC, dI) vwCl [(h0, .inr (3, [.ref h0_roots, .ref h0_strides, .ref h0_halvesFound])), (h0_roots, .inr (1, [.ref h0_roots_least, .int u0])), (h0_roots_least, .inl (k_t_roots_least, 10007, .inl u1))] t.heap ∧ va_K (dC, dI) vwCl [(k_t_roots_least, .int)] t ∧ va_D (A) [(h0, .inr (3, [.ref h0_roots, .ref h0_strides, .ref h0_halvesFound])), (h0_roots, .inr (1, [.ref h0_roots_least, .int u0])), (h0_roots_least, .inl (k_t_roots_least, 10007, .inl u1))]) (A)) (([.ref h0, .int a0, .int a1, .int a2] : List Value).toArray) s 0 0 A) (F0 m 6 ls []) := by
    intro n
    induction n with
    | zero => intro x1 x2 x3 x4 o h; exact absurd h (mi_run_0 _ _ _)
    | succ n ih =>
      intro x1 x2 x3 x4 o h hkE H locs ls hP hD hS hl
      obtain ⟨w, h, hA, hB⟩ := mi_run_s h
      dsimp only [mX3_manyPoints_b6] at h
      refine lv_iload hx hb dX3_manyPoints_6 (lv_at hl 1 rfl) ?_
      refine lv_iload_n hx hb dX3_manyPoints_8 rfl (lv_at hl 3 rfl) ?_
      refine lv_icmp_ge (tgt := 44) hx hb dX3_manyPoints_9 (by decide) (fun c9 => ?_) (fun c9 => ?_)
      · replace h := (if_pos c9).symm.trans h
        exact hkE _ _ _ _ (hB _ (Option.some.inj h).symm) _ _ ls hP hD hS (lv_sub hl [0, 1, 2, 3, 4, 5] rfl)
      · replace h := (if_neg c9).symm.trans h
        refine lv_iload hx hb dX3_manyPoints_12 (lv_at hl 0 rfl) ?_
        refine lv_aload_n hx hb dX3_manyPoints_14 rfl (lv_at hl 2 rfl) ?_
        refine lv_iload hx hb dX3_manyPoints_15 (lv_at hl 1 rfl) ?_
        refine lv_iload hx hb dX3_manyPoints_17 (lv_at hl 1 rfl) ?_
        refine lv_imul hx hb dX3_manyPoints_19 ?_
        refine lv_iload_n hx hb dX3_manyPoints_20 rfl (lv_at hl 4 rfl) ?_
        refine lv_iadd hx hb dX3_manyPoints_21 ?_
        refine lv_iload_n hx hb dX3_manyPoints_22 rfl (lv_at hl 3 rfl) ?_
        have hn10 : ¬ a0 = 0 := fun hz => absurd ((if_pos hz).symm.trans h) (fun hh => nomatch hh)
        replace h := (if_neg hn10).symm.trans h
        refine lv_irem hx hb dX3_manyPoints_23 hn10 ?_
        refine lv_topi (fun v11 ev11 => ?_)
        replace h := mi_use ev11 h
        refine lv_iload hx hb dX3_manyPoints_24 (lv_at hl 1 rfl) ?_
        refine lv_imul hx hb dX3_manyPoints_26 ?_
        refine lv_iload_n hx hb dX3_manyPoints_27 rfl (lv_at hl 5 rfl) ?_
        refine lv_iadd hx hb dX3_manyPoints_28 ?_
        refine lv_iload_n hx hb dX3_manyPoints_29 rfl (lv_at hl 3 rfl) ?_
        have hn12 : ¬ a0 = 0 := fun hz => absurd ((if_pos hz).symm.trans h) (fun hh => nomatch hh)
        replace h := (if_neg hn12).symm.trans h
        refine lv_irem hx hb dX3_manyPoints_30 hn12 ?_
        refine lv_topi (fun v13 ev13 => ?_)
        replace h := mi_use ev13 h
        refine lv_iload_n hx hb dX3_manyPoints_31 rfl (lv_at hl 3 rfl) ?_
        obtain ⟨r14, hr14, h⟩ := Option.bind_eq_some_iff.mp h
        have hPc := hP.sub (ws' := [(h0, .inr (3, [.ref h0_roots, .ref h0_strides, .ref h0_halvesFound])), (h0_roots, .inr (1, [.ref h0_roots_least, .int x3])), (h0_roots_least, .inl (k_t_roots_least, 10007, .inl x4))]) [0, 1, 2] rfl
        have hDc := hD.sub (ws' := [(h0, .inr (3, [.ref h0_roots, .ref h0_strides, .ref h0_halvesFound])), (h0_roots, .inr (1, [.ref h0_roots_least, .int x3])), (h0_roots_least, .inl (k_t_roots_least, 10007, .inl x4))]) [0, 1, 2] (by decide) rfl
        have hKc := hK.sub (tys' := [(k_t_roots_least, .int)]) [0] rfl
        have hFc := va_free (wc := [(h0, .inr (3, [.ref h0_roots, .ref h0_strides, .ref h0_halvesFound])), (h0_roots, .inr (1, [.ref h0_roots_least, .int x3])), (h0_roots_least, .inl (k_t_roots_least, 10007, .inl x4))]) hD hS hA0 [0, 1, 2] rfl
        refine va_calli (va_runV (As := [.int v13, .int a0]) (rest := [.int x1]) ⟨hx, hb, hml, hown, hts⟩ (ctX3_manyAt l N dC dI _ h0 h0_roots h0_roots_least h0_strides h0_halvesFound k_t_roots_least x3 x4 v13 a0 r14 hr14) (cwV 2 hts gX3_manyPoints_X3_manyAt rfl rfl rfl (by decide +kernel) ⟨Nat.le_of_ble_eq_true rfl, Nat.le_of_ble_eq_true rfl⟩) ⟨fun a U g mk q => by obtain ⟨q0, q1, qP, qK, qN, qD⟩ := q; exact ⟨q0, q1, qP, va_K.moved (u := U) (U := U.calling g mk a) (Vm.Alike.refl U.vm) qK, nw_same (u := U) (U := U.calling g mk a) rfl qN, qD⟩, va_recv hKc hPc (ci := 3) (q0 := 0) rfl rfl, fun U hU hW => ⟨rfl, by rw [hU], by rw [hU]; exact hPc, va_K.moved hW.alike hKc, nw_warm hW hN, hDc.weaken (fun _ _ _ _ => trivial)⟩⟩ rfl rfl hl.1 rfl (lv_room (Nat.le_of_ble_eq_true rfl)) dX3_manyPoints_32 ⟨Nat.le_of_ble_eq_true rfl, Nat.le_of_ble_eq_true rfl⟩) hS (fun q _ h => hFc q h) hFc (fun rz u t H1 locs ht hvm hw hB1 hz1 hk1 hS => ?_)
        obtain ⟨u15, f16⟩ := u
        obtain ⟨hP1, hK1, hD1⟩ := hB1
        rw [ht] at hP1
        have hK1 := va_K.moved hvm.symm hK1
        obtain ⟨r17, rfl⟩ : ∃ z, z = rz := ⟨_, rfl⟩
        subst hw
        try dsimp only at h
        obtain ⟨hP, hD⟩ := va_join (wr := []) (w1 := [(h0, .inr (3, [.ref h0_roots, .ref h0_strides, .ref h0_halvesFound])), (h0_roots, .inr (1, [.ref h0_roots_least, .int u15])), (h0_roots_least, .inl (k_t_roots_least, 10007, .inl f16))]) hP hD [0, 1, 2] [] rfl rfl (by decide) (by decide) hk1 hFc hP1 hD1
        generalize H1 = H at hP hS ⊢
        have hP := hP.sub (ws' := [(h0, .inr (3, [.ref h0_roots, .ref h0_strides, .ref h0_halvesFound])), (h0_roots, .inr (1, [.ref h0_roots_least, .int u15])), (h0_roots_least, .inl (k_t_roots_least, 10007, .inl f16))]) [0, 1, 2] rfl
        have hD := hD.sub (ws' := [(h0, .inr (3, [.ref h0_roots, .ref h0_strides, .ref h0_halvesFound])), (h0_roots, .inr (1, [.ref h0_roots_least, .int u15])), (h0_roots_least, .inl (k_t_roots_least, 10007, .inl f16))]) [0, 1, 2] (by decide) rfl
        refine lv_iadd hx hb dX3_manyPoints_35 ?_
        refine lv_topi (fun v18 ev18 => ?_)
        replace h := mi_use ev18 h
        refine lv_istore (lv' := [(4, .int v18), (5, .int x2), (0, .ref h0), (1, .int a0), (2, .int a1), (3, .int a2)]) hx hb dX3_manyPoints_36 hl (by decide) rfl (fun ls hl => ?_)
        obtain ⟨v19, ev19⟩ : ∃ z : Int32, z = x2 + 1 := ⟨_, rfl⟩
        refine lv_iinc (v := v19) (lv' := [(5, .int v19), (4, .int v18), (0, .ref h0), (1, .int a0), (2, .int a1), (3, .int a2)]) hx hb dX3_manyPoints_38 hl (k := 1) rfl (by rw [ev19]; rfl) (by decide) rfl (fun ls hl => ?_)
        replace h := mi_use ev19 h
        refine lv_goto (tgt := 6) hx hb dX3_manyPoints_41 (by decide) ?_
        exact ih _ _ _ _ _ (hA _ (Option.some.inj h).symm) hkE _ _ ls hP hD hS (lv_sub hl [1, 0, 2, 3, 4, 5] rfl)
  obtain ⟨o20, ho20, h⟩ := Option.bind_eq_some_iff.mp h
  refine L6 N _ _ _ _ o20 ho20 ?_ _ _ ls hP hD hS (lv_sub hl [1, 0, 2, 3, 4, 5] rfl)
  intro y5 y6 y7 y8 eo H locs ls hP hD hS hl
  subst eo
  try dsimp only at h
  refine lv_iload hx hb dX3_manyPoints_44 (lv_at hl 0 rfl) ?_
  have hv : (y5, y7, y8) = rr := Option.some.inj h
  have hP9 := hP.sub (ws' := [(h0, .inr (3, [.ref h0_roots, .ref h0_strides, .ref h0_halvesFound])), (h0_roots, .inr (1, [.ref h0_roots_least, .int y7])), (h0_roots_least, .inl (k_t_roots_least, 10007, .inl y8))]) [0, 1, 2] rfl
  have hD9 := hD.sub (ws' := [(h0, .inr (3, [.ref h0_roots, .ref h0_strides, .ref h0_halvesFound])), (h0_roots, .inr (1, [.ref h0_roots_least, .int y7])), (h0_roots_least, .inl (k_t_roots_least, 10007, .inl y8))]) [0, 1, 2] (by decide) rfl
  have hK9 := hK.sub (tys' := [(k_t_roots_least, .int)]) [0] rfl
  exact W.iret (v := y5) hx hb hr (fun t ht hW => ⟨⟨y5, (y7, y8), rfl, hv, by rw [ht]; exact hP9, va_K.moved hW.alike hK9, hD9⟩, hS.F ht⟩) hS.2.2 dX3_manyPoints_46
