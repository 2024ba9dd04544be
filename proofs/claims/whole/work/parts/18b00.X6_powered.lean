def mX6_powered_b9 (N : Nat) (t_p : Int32) (st : Int32 × Int32 × Int64) : Option ((Int32 × Int32 × Int64) ⊕ (Int32 × Int32 × Int64)) :=
  match st with
  | (x1, x2, x3) => mi_let (lg_cmp x3 0) (fun v7 => if v7 ≤ 0 then some (.inr (x1, x2, x3)) else mi_let (lg_cmp (x3 &&& 1) 1) (fun v9 => if v9 = 0 then (mX6_mul N t_p x1 x2).bind (fun r13 => (mX6_mul N t_p x2 x2).bind (fun r14 => mi_let (x3 >>> ((1 : Int32).toInt64 &&& 63)) (fun v15 => some (.inl (r13, r14, v15))))) else (mX6_mul N t_p x2 x2).bind (fun r11 => mi_let (x3 >>> ((1 : Int32).toInt64 &&& 63)) (fun v12 => some (.inl (x1, r11, v12))))))
def mX6_powered (N : Nat) (t_p : Int32) (a0 : Int32) (a1 : Int64) : Option (Int32) := (mi_run (mX6_powered_b9 N t_p) N (1, a0, a1)).bind (fun o16 => match o16 with | (y4, y5, y6) => some y4)
abbrev rmX6_powered : Room := { frames := 1, cells := 0, slots := 0, locals := 22 }
set_option maxHeartbeats 4000000 in
set_option maxRecDepth 100000 in
theorem ctX6_powered (l : Launch) (N : Nat) (dC : Nat → ClassId) (dI : Nat → Nat → Nat) (h0 : Nat) (h0_inverses : Nat) (h0_roots : Nat) (h0_points : Nat) (h0_ahead : Nat) (h0_ps : Nat) (h0_as : Nat) (h0_bs : Nat) (h0_from : Nat) (h0_kernelPoint : Nat) (h0_kernelOrder : Nat) (h0_marked : Nat) (h0_seen : Nat) (t_p : Int32) (t_a : Int32) (t_b : Int32) (t_rooted : Int32) (t_pointMany : Int32) (t_curves : Int32) (a0 : Int32) (a1 : Int64) (rr : Int32) (h : mX6_powered N t_p a0 a1 = some rr) : Met l yX6_powered wsX6_powered rmX6_powered (va_Pc [.ref h0, .int a0, .long a1] (fun U => va_P (dC, dI) vwCl [(h0, .inr (5, [.int t_p, .int t_a, .int t_b, .ref h0_inverses, .ref h0_roots, .int t_rooted, .ref h0_points, .int t_pointMany, .ref h0_ahead, .int t_curves, .ref h0_ps, .ref h0_as, .ref h0_bs, .ref h0_from, .ref h0_kernelPoint, .ref h0_kernelOrder, .ref h0_marked, .ref h0_seen]))] U.heap ∧ va_K (dC, dI) vwCl [] U ∧ nw_all U)) (vp_Si (fun r => r = rr)) 0 0 (fun _ => False) := by
  refine Met.ofW (cc := cX6_powered) (maxL := 8) (ret := (some .int)) (by decide) rfl ?_
  intro p e s m args below meth c s₁ B hml hv
  obtain ⟨rfl, hP, hK, hN⟩ := hv
  have hx := B.exec
  have hb := B.bytes
  have hr := B.returns
  have hts := atoms_spec (ws := wsX6_powered) B.pre
  have hown : s.vm.findClass RX6 = some m.cls := findClass_of_methodNamed B.named
  have hlocks := B.notSynchronized
  have hl := lv_entry ([.ref h0, .int a0, .long a1]) (n := 8) (Nat.le_of_ble_eq_true rfl)
  rw [lg_entry_eq]
  generalize (lg_sl ([.ref h0, .int a0, .long a1]) ++ List.replicate (8 - (lg_sl ([.ref h0, .int a0, .long a1])).length) Slot.unset).toArray = ls at hl ⊢
  have hl : lv_has ls 8 [(0, .ref h0), (1, .int a0), (2, .long a1)] := hl
  dsimp only [mX6_powered] at h
  refine lv_iconst (v := 1) hx hb dX6_powered_0 (by decide) ?_
  refine lv_istore (lv' := [(4, .int 1), (0, .ref h0), (1, .int a0), (2, .long a1)]) hx hb dX6_powered_1 hl (by decide) rfl (fun ls hl => ?_)
  refine lv_iload_n hx hb dX6_powered_3 rfl (lv_at hl 2 rfl) ?_
  refine lv_istore (lv' := [(5, .int a0), (4, .int 1), (0, .ref h0), (1, .int a0), (2, .long a1)]) hx hb dX6_powered_4 hl (by decide) rfl (fun ls hl => ?_)
  refine lv_lload_n hx hb dX6_powered_6 rfl (lv_at hl 4 rfl) ?_
  refine lv_lstore (lv' := [(6, .long a1), (5, .int a0), (4, .int 1), (0, .ref h0), (1, .int a0), (2, .long a1)]) hx hb dX6_powered_7 hl (by decide) rfl (fun ls hl => ?_)
  have L9 : ∀ (n : Nat) (x1 : Int32) (x2 : Int32) (x3 : Int64) (o : Int32 × Int32 × Int64), mi_run (mX6_powered_b9 N t_p) n (x1, x2, x3) = some o → (∀ (y4 : Int32) (y5 : Int32) (y6 : Int64), o = (y4, y5, y6) → ∀ ls, lv_has ls 8 [(4, .int y4), (5, .int y5), (6, .long y6), (0, .ref h0), (1, .int a0), (2, .long a1)] → W p l e (headSpec wsX6_powered rmX6_powered).room s m (([.ref h0, .int a0, .long a1] : List Value).toArray) below meth c s.heap [] 0 0 (MQ below (vp_Si (fun r => r = rr)) (([.ref h0, .int a0, .long a1] : List Value).toArray) s 0 0 (fun _ => False)) (F0 m 59 ls [])) → ∀ ls, lv_has ls 8 [(4, .int x1), (5, .int x2), (6, .long x3), (0, .ref h0), (1, .int a0), (2, .long a1)] → W p l e (headSpec wsX6_powered rmX6_powered).room s m (([.ref h0, .int a0, .long a1] : List Value).toArray) below meth c s.heap [] 0 0 (MQ below (vp_Si (fun r => r = rr)) (([.ref h0, .int a0, .long a1] : List Value).toArray) s 0 0 (fun _ => False)) (F0 m 9 ls []) := by
    intro n
    induction n with
    | zero => intro x1 x2 x3 o h; exact absurd h (mi_run_0 _ _ _)
    | succ n ih =>
      intro x1 x2 x3 o h hkE ls hl
      obtain ⟨w, h, hA, hB⟩ := mi_run_s h
      dsimp only [mX6_powered_b9] at h
      refine lv_lload hx hb dX6_powered_9 (lv_at hl 2 rfl) ?_
      refine lv_lconst (v := 0) hx hb dX6_powered_11 (by decide) ?_
      refine W.lcmp hx hb dX6_powered_12 ?_
      refine lv_topi (fun v7 ev7 => ?_)
      replace h := mi_use ev7 h
      refine lv_if_le (tgt := 59) hx hb dX6_powered_13 (by decide) (fun c8 => ?_) (fun c8 => ?_)
      · replace h := (if_pos c8).symm.trans h
        exact hkE _ _ _ (hB _ (Option.some.inj h).symm) ls (lv_sub hl [0, 1, 2, 3, 4, 5] rfl)
      · replace h := (if_neg c8).symm.trans h
        refine lv_lload hx hb dX6_powered_16 (lv_at hl 2 rfl) ?_
        refine lv_lconst (v := 1) hx hb dX6_powered_18 (by decide) ?_
        refine lv_land hx hb dX6_powered_19 ?_
        refine lv_lconst (v := 1) hx hb dX6_powered_20 (by decide) ?_
        refine W.lcmp hx hb dX6_powered_21 ?_
        refine lv_topi (fun v9 ev9 => ?_)
        replace h := mi_use ev9 h
        refine lv_if_ne (tgt := 36) hx hb dX6_powered_22 (by decide) (fun c10 => ?_) (fun c10 => ?_)
        · replace h := (if_neg c10).symm.trans h
          refine lv_iload hx hb dX6_powered_36 (lv_at hl 0 rfl) ?_
          refine lv_istore (lv' := [(4, .int x1), (5, .int x2), (6, .long x3), (0, .ref h0), (1, .int a0), (2, .long a1)]) hx hb dX6_powered_38 hl (by decide) rfl (fun ls hl => ?_)
          refine lv_aload_n hx hb dX6_powered_40 rfl (lv_at hl 3 rfl) ?_
          refine lv_iload hx hb dX6_powered_41 (lv_at hl 1 rfl) ?_
          refine lv_iload hx hb dX6_powered_43 (lv_at hl 1 rfl) ?_
          obtain ⟨r11, hr11, h⟩ := Option.bind_eq_some_iff.mp h
          have hPc := hP.sub (ws' := [(h0, .inr (5, [.int t_p, .int t_a, .int t_b, .ref h0_inverses, .ref h0_roots, .int t_rooted, .ref h0_points, .int t_pointMany, .ref h0_ahead, .int t_curves, .ref h0_ps, .ref h0_as, .ref h0_bs, .ref h0_from, .ref h0_kernelPoint, .ref h0_kernelOrder, .ref h0_marked, .ref h0_seen]))]) [0] rfl
          have hKc := hK.sub (tys' := []) [] rfl
          refine vp_callSi (W.runV (As := [.int x2, .int x2]) (rest := []) ⟨hx, hb, hml, hown, hts⟩ (ctX6_mul l N dC dI  h0 h0_inverses h0_roots h0_points h0_ahead h0_ps h0_as h0_bs h0_from h0_kernelPoint h0_kernelOrder h0_marked h0_seen t_p t_a t_b t_rooted t_pointMany t_curves x2 x2 r11 hr11) (cwV 2 hts gX6_powered_X6_mul rfl rfl rfl (by decide +kernel) ⟨Nat.le_of_ble_eq_true rfl, Nat.le_of_ble_eq_true rfl⟩) ⟨fun a U g mk q => by obtain ⟨q0, qP, qK, qN⟩ := q; exact ⟨q0, qP, va_K.moved (u := U) (U := U.calling g mk a) (Vm.Alike.refl U.vm) qK, nw_same (u := U) (U := U.calling g mk a) rfl qN⟩, va_recv hKc hPc (ci := 5) (q0 := 0) rfl rfl, fun U hU hW => ⟨rfl, by rw [hU]; exact hPc, va_K.moved hW.alike hKc, nw_warm hW hN⟩⟩ rfl rfl hl.1 rfl (lv_room (Nat.le_of_ble_eq_true rfl)) dX6_powered_45 ⟨Nat.le_of_ble_eq_true rfl, Nat.le_of_ble_eq_true rfl⟩) (fun q9 eq9 => ?_)
          subst q9
          refine lv_istore (lv' := [(5, .int r11), (4, .int x1), (6, .long x3), (0, .ref h0), (1, .int a0), (2, .long a1)]) hx hb dX6_powered_48 hl (by decide) rfl (fun ls hl => ?_)
          refine lv_lload hx hb dX6_powered_50 (lv_at hl 2 rfl) ?_
          refine lv_iconst (v := 1) hx hb dX6_powered_52 (by decide) ?_
          refine lv_lshr hx hb dX6_powered_53 rfl ?_
          refine lv_topl (fun v12 ev12 => ?_)
          replace h := mi_use ev12 h
          refine lv_lstore (lv' := [(6, .long v12), (5, .int r11), (4, .int x1), (0, .ref h0), (1, .int a0), (2, .long a1)]) hx hb dX6_powered_54 hl (by decide) rfl (fun ls hl => ?_)
          refine lv_goto (tgt := 9) hx hb dX6_powered_56 (by decide) ?_
          exact ih _ _ _ _ (hA _ (Option.some.inj h).symm) hkE ls (lv_sub hl [2, 1, 0, 3, 4, 5] rfl)
        · replace h := (if_pos c10).symm.trans h
          refine lv_aload_n hx hb dX6_powered_25 rfl (lv_at hl 3 rfl) ?_
          refine lv_iload hx hb dX6_powered_26 (lv_at hl 0 rfl) ?_
          refine lv_iload hx hb dX6_powered_28 (lv_at hl 1 rfl) ?_
          obtain ⟨r13, hr13, h⟩ := Option.bind_eq_some_iff.mp h
          have hPc := hP.sub (ws' := [(h0, .inr (5, [.int t_p, .int t_a, .int t_b, .ref h0_inverses, .ref h0_roots, .int t_rooted, .ref h0_points, .int t_pointMany, .ref h0_ahead, .int t_curves, .ref h0_ps, .ref h0_as, .ref h0_bs, .ref h0_from, .ref h0_kernelPoint, .ref h0_kernelOrder, .ref h0_marked, .ref h0_seen]))]) [0] rfl
          have hKc := hK.sub (tys' := []) [] rfl
          refine vp_callSi (W.runV (As := [.int x1, .int x2]) (rest := []) ⟨hx, hb, hml, hown, hts⟩ (ctX6_mul l N dC dI  h0 h0_inverses h0_roots h0_points h0_ahead h0_ps h0_as h0_bs h0_from h0_kernelPoint h0_kernelOrder h0_marked h0_seen t_p t_a t_b t_rooted t_pointMany t_curves x1 x2 r13 hr13) (cwV 2 hts gX6_powered_X6_mul rfl rfl rfl (by decide +kernel) ⟨Nat.le_of_ble_eq_true rfl, Nat.le_of_ble_eq_true rfl⟩) ⟨fun a U g mk q => by obtain ⟨q0, qP, qK, qN⟩ := q; exact ⟨q0, qP, va_K.moved (u := U) (U := U.calling g mk a) (Vm.Alike.refl U.vm) qK, nw_same (u := U) (U := U.calling g mk a) rfl qN⟩, va_recv hKc hPc (ci := 5) (q0 := 0) rfl rfl, fun U hU hW => ⟨rfl, by rw [hU]; exact hPc, va_K.moved hW.alike hKc, nw_warm hW hN⟩⟩ rfl rfl hl.1 rfl (lv_room (Nat.le_of_ble_eq_true rfl)) dX6_powered_30 ⟨Nat.le_of_ble_eq_true rfl, Nat.le_of_ble_eq_true rfl⟩) (fun q9 eq9 => ?_)
          subst q9
          refine lv_goto (tgt := 38) hx hb dX6_powered_33 (by decide) ?_
          refine lv_istore (lv' := [(4, .int r13), (5, .int x2), (6, .long x3), (0, .ref h0), (1, .int a0), (2, .long a1)]) hx hb dX6_powered_38 hl (by decide) rfl (fun ls hl => ?_)
          refine lv_aload_n hx hb dX6_powered_40 rfl (lv_at hl 3 rfl) ?_
          refine lv_iload hx hb dX6_powered_41 (lv_at hl 1 rfl) ?_
          refine lv_iload hx hb dX6_powered_43 (lv_at hl 1 rfl) ?_
          obtain ⟨r14, hr14, h⟩ := Option.bind_eq_some_iff.mp h
          have hPc := hP.sub (ws' := [(h0, .inr (5, [.int t_p, .int t_a, .int t_b, .ref h0_inverses, .ref h0_roots, .int t_rooted, .ref h0_points, .int t_pointMany, .ref h0_ahead, .int t_curves, .ref h0_ps, .ref h0_as, .ref h0_bs, .ref h0_from, .ref h0_kernelPoint, .ref h0_kernelOrder, .ref h0_marked, .ref h0_seen]))]) [0] rfl
          have hKc := hK.sub (tys' := []) [] rfl
          refine vp_callSi (W.runV (As := [.int x2, .int x2]) (rest := []) ⟨hx, hb, hml, hown, hts⟩ (ctX6_mul l N dC dI  h0 h0_inverses h0_roots h0_points h0_ahead h0_ps h0_as h0_bs h0_from h0_kernelPoint h0_kernelOrder h0_marked h0_seen t_p t_a t_b t_rooted t_pointMany t_curves x2 x2 r14 hr14) (cwV 2 hts gX6_powered_X6_mul rfl rfl rfl (by decide +kernel) ⟨Nat.le_of_ble_eq_true rfl, Nat.le_of_ble_eq_true rfl⟩) ⟨fun a U g mk q => by obtain ⟨q0, qP, qK, qN⟩ := q; exact ⟨q0, qP, va_K.moved (u := U) (U := U.calling g mk a) (Vm.Alike.refl U.vm) qK, nw_same (u := U) (U := U.calling g mk a) rfl qN⟩, va_recv hKc hPc (ci := 5) (q0 := 0) rfl rfl, fun U hU hW => ⟨rfl, by rw [hU]; exact hPc, va_K.moved hW.alike hKc, nw_warm hW hN⟩⟩ rfl rfl hl.1 rfl (lv_room (Nat.le_of_ble_eq_true rfl)) dX6_powered_45 ⟨Nat.le_of_ble_eq_true rfl, Nat.le_of_ble_eq_true rfl⟩) (fun q9 eq9 => ?_)
          subst q9
          refine lv_istore (lv' := [(5, .int r14), (4, .int r13), (6, .long x3), (0, .ref h0), (1, .int a0), (2, .long a1)]) hx hb dX6_powered_48 hl (by decide) rfl (fun ls hl => ?_)
          refine lv_lload hx hb dX6_powered_50 (lv_at hl 2 rfl) ?_
          refine lv_iconst (v := 1) hx hb dX6_powered_52 (by decide) ?_
          refine lv_lshr hx hb dX6_powered_53 rfl ?_
          refine lv_topl (fun v15 ev15 => ?_)
          replace h := mi_use ev15 h
          refine lv_lstore (lv' := [(6, .long v15), (5, .int r14), (4, .int r13), (0, .ref h0), (1, .int a0), (2, .long a1)]) hx hb dX6_powered_54 hl (by decide) rfl (fun ls hl => ?_)
          refine lv_goto (tgt := 9) hx hb dX6_powered_56 (by decide) ?_
          exact ih _ _ _ _ (hA _ (Option.some.inj h).symm) hkE ls (lv_sub hl [2, 1, 0, 3, 4, 5] rfl)
  obtain ⟨o16, ho16, h⟩ := Option.bind_eq_some_iff.mp h
  refine L9 N _ _ _ o16 ho16 ?_ ls (lv_sub hl [2, 1, 0, 3, 4, 5] rfl)
  intro y4 y5 y6 eo ls hl
  subst eo
  try dsimp only at h
  refine lv_iload hx hb dX6_powered_59 (lv_at hl 0 rfl) ?_
  have hv : y4 = rr := Option.some.inj h
  exact W.iret (v := y4) hx hb hr (fun t ht hW => ⟨_, rfl, hv, ht⟩) (fun q hq => absurd hq List.not_mem_nil) dX6_powered_61
def mX6_noSquare_b2 (N : Nat) (t_roots : Nat → Int32) (st : Int32) : Option ((Int32) ⊕ (Int32)) :=
  match st with
  | x1 => if x1 < 0 ∨ 10008 ≤ x1.toNatClampNeg then none else mi_let (t_roots x1.toNatClampNeg) (fun v4 => if v4 = (-1) then some (.inr x1) else mi_let (x1 + 1) (fun v6 => some (.inl v6)))
def mX6_noSquare (N : Nat) (t_roots : Nat → Int32) : Option (Int32) := (mi_run (mX6_noSquare_b2 N t_roots) N 2).bind (fun y2 => some y2)
abbrev rmX6_noSquare : Room := { frames := 0, cells := 0, slots := 0, locals := 0 }
set_option maxHeartbeats 4000000 in
set_option maxRecDepth 100000 in
theorem ctX6_noSquare (l : Launch) (N : Nat) (dC : Nat → ClassId) (dI : Nat → Nat → Nat) (h0 : Nat) (h0_roots : Nat) (h0_inverses : Nat) (h0_points : Nat) (h0_ahead : Nat) (h0_ps : Nat) (h0_as : Nat) (h0_bs : Nat) (h0_from : Nat) (h0_kernelPoint : Nat) (h0_kernelOrder : Nat) (h0_marked : Nat) (h0_seen : Nat) (k_t_roots : ClassId) (t_p : Int32) (t_a : Int32) (t_b : Int32) (t_rooted : Int32) (t_pointMany : Int32) (t_curves : Int32) (t_roots : Nat → Int32) (rr : Int32) (h : mX6_noSquare N t_roots = some rr) : Met l yX6_noSquare wsX6_noSquare rmX6_noSquare (va_Pc [.ref h0] (fun U => va_P (dC, dI) vwCl [(h0, .inr (5, [.int t_p, .int t_a, .int t_b, .ref h0_inverses, .ref h0_roots, .int t_rooted, .ref h0_points, .int t_pointMany, .ref h0_ahead, .int t_curves, .ref h0_ps, .ref h0_as, .ref h0_bs, .ref h0_from, .ref h0_kernelPoint, .ref h0_kernelOrder, .ref h0_marked, .ref h0_seen])), (h0_roots, .inl (k_t_roots, 10008, .inl t_roots))] U.heap ∧ va_K (dC, dI) vwCl [(k_t_roots, .int)] U ∧ nw_all U)) (vp_Si (fun r => r = rr)) 0 0 (fun _ => False) := by
  refine Met.ofW (cc := cX6_noSquare) (maxL := 2) (ret := (some .int)) (by decide) rfl ?_
  intro p e s m args below meth c s₁ B hml hv
  obtain ⟨rfl, hP, hK, hN⟩ := hv
  have hx := B.exec
  have hb := B.bytes
  have hr := B.returns
  have hts := atoms_spec (ws := wsX6_noSquare) B.pre
  have hown : s.vm.findClass RX6 = some m.cls := findClass_of_methodNamed B.named
  have hlocks := B.notSynchronized
  have hl := lv_entry ([.ref h0]) (n := 2) (Nat.le_of_ble_eq_true rfl)
  rw [lg_entry_eq]
  generalize (lg_sl ([.ref h0]) ++ List.replicate (2 - (lg_sl ([.ref h0])).length) Slot.unset).toArray = ls at hl ⊢
  have hl : lv_has ls 2 [(0, .ref h0)] := hl
  dsimp only [mX6_noSquare] at h
  refine lv_iconst (v := 2) hx hb dX6_noSquare_0 (by decide) ?_
  refine lv_istore_n (lv' := [(1, .int 2), (0, .ref h0)]) hx hb dX6_noSquare_1 rfl hl (by decide) rfl (fun ls hl => ?_)
  have L2 : ∀ (n : Nat) (x1 : Int32) (o : Int32), mi_run (mX6_noSquare_b2 N t_roots) n x1 = some o → (∀ (y2 : Int32), o = y2 → ∀ ls, lv_has ls 2 [(1, .int y2), (0, .ref h0)] → W p l e (headSpec wsX6_noSquare rmX6_noSquare).room s m (([.ref h0] : List Value).toArray) below meth c s.heap [] 0 0 (MQ below (vp_Si (fun r => r = rr)) (([.ref h0] : List Value).toArray) s 0 0 (fun _ => False)) (F0 m 18 ls [])) → ∀ ls, lv_has ls 2 [(1, .int x1), (0, .ref h0)] → W p l e (headSpec wsX6_noSquare rmX6_noSquare).room s m (([.ref h0] : List Value).toArray) below meth c s.heap [] 0 0 (MQ below (vp_Si (fun r => r = rr)) (([.ref h0] : List Value).toArray) s 0 0 (fun _ => False)) (F0 m 2 ls []) := by
    intro n
    induction n with
    | zero => intro x1 o h; exact absurd h (mi_run_0 _ _ _)
    | succ n ih =>
      intro x1 o h hkE ls hl
      obtain ⟨w, h, hA, hB⟩ := mi_run_s h
      dsimp only [mX6_noSquare_b2] at h
      refine lv_aload_n hx hb dX6_noSquare_2 rfl (lv_at hl 1 rfl) ?_
      refine va_get (D := (dC, dI)) (ci := 5) (v := .ref h0_roots) (C := RX6) (T := TX6) (N := 18) hx hb hts (by decide +kernel) hown hK hP 0 rfl rfl 4 (by decide) (hts (.fieldLink RX6 13 "PointRingsModel" "roots" "[I") (by decide +kernel)) (fun _ h9 => h9) rfl dX6_noSquare_3 ?_
      refine lv_iload_n hx hb dX6_noSquare_6 rfl (lv_at hl 0 rfl) ?_
      have hi3 : ¬ (x1 < 0 ∨ 10008 ≤ x1.toNatClampNeg) := fun hz => absurd ((if_pos hz).symm.trans h) (fun hh => nomatch hh)
      replace h := (if_neg hi3).symm.trans h
      refine va_iald hx hb hK hP 1 0 rfl rfl hi3 dX6_noSquare_7 ?_
      refine lv_topi (fun v4 ev4 => ?_)
      replace h := mi_use ev4 h
      refine lv_iconst (v := (-1)) hx hb dX6_noSquare_8 (by decide) ?_
      refine lv_icmp_eq (tgt := 18) hx hb dX6_noSquare_9 (by decide) (fun c5 => ?_) (fun c5 => ?_)
      · replace h := (if_pos c5).symm.trans h
        exact hkE _ (hB _ (Option.some.inj h).symm) ls (lv_sub hl [0, 1] rfl)
      · replace h := (if_neg c5).symm.trans h
        obtain ⟨v6, ev6⟩ : ∃ z : Int32, z = x1 + 1 := ⟨_, rfl⟩
        refine lv_iinc (v := v6) (lv' := [(1, .int v6), (0, .ref h0)]) hx hb dX6_noSquare_12 hl (k := 0) rfl (by rw [ev6]; rfl) (by decide) rfl (fun ls hl => ?_)
        replace h := mi_use ev6 h
        refine lv_goto (tgt := 2) hx hb dX6_noSquare_15 (by decide) ?_
        exact ih _ _ (hA _ (Option.some.inj h).symm) hkE ls (lv_sub hl [0, 1] rfl)
  obtain ⟨o7, ho7, h⟩ := Option.bind_eq_some_iff.mp h
  refine L2 N _ o7 ho7 ?_ ls (lv_sub hl [0, 1] rfl)
  intro y2 eo ls hl
  subst o7
  refine lv_iload_n hx hb dX6_noSquare_18 rfl (lv_at hl 0 rfl) ?_
  have hv : y2 = rr := Option.some.inj h
  exact W.iret (v := y2) hx hb hr (fun t ht hW => ⟨_, rfl, hv, ht⟩) (fun q hq => absurd hq List.not_mem_nil) dX6_noSquare_19
def mX6_list_b22 (N : Nat) (t_p : Int32) (t_a : Int32) (t_b : Int32) (t_roots : Nat → Int32) (st : Int32 × Int32 × (Nat → Int32) × (Nat → Int32)) : Option ((Int32 × Int32 × (Nat → Int32) × (Nat → Int32)) ⊕ (Int32 × Int32 × (Nat → Int32) × (Nat → Int32))) :=
  match st with
  | (x4, x5, x6, x7) => if t_p ≤ x4 then some (.inr (x4, x5, x6, x7)) else if x4 < 0 ∨ 10008 ≤ x4.toNatClampNeg then none else mi_let (upd x7 x4.toNatClampNeg x5) (fun f14 => (mX6_right N t_p t_a t_b x4).bind (fun r15 => if r15 < 0 ∨ 10008 ≤ r15.toNatClampNeg then none else mi_let (t_roots r15.toNatClampNeg) (fun v17 => if v17 = (-1) then mi_let (x4 + 1) (fun v19 => some (.inl (v19, x5, x6, f14))) else if x5 < 0 ∨ 10300 ≤ x5.toNatClampNeg then none else mi_let (upd x6 x5.toNatClampNeg ((16384 * x4) + v17)) (fun f21 => mi_let (x5 + 1) (fun v22 => if v17 ≤ 0 then mi_let (x4 + 1) (fun v24 => some (.inl (v24, v22, f21, f14))) else if v22 < 0 ∨ 10300 ≤ v22.toNatClampNeg then none else mi_let (upd f21 v22.toNatClampNeg (((16384 * x4) + t_p) - v17)) (fun f26 => mi_let (v22 + 1) (fun v27 => mi_let (x4 + 1) (fun v28 => some (.inl (v28, v27, f26, f14))))))))))
def mX6_list (N : Nat) (t_p : Int32) (t_a : Int32) (t_b : Int32) (t_pointMany : Int32) (t_roots : Nat → Int32) (t_points : Nat → Int32) (t_ahead : Nat → Int32) : Option (Int32 × (Nat → Int32) × (Nat → Int32)) := if t_pointMany ≤ 0 then if (0 : Int32) < 0 ∨ 10300 ≤ (0 : Int32).toNatClampNeg then none else mi_let (upd t_points (0 : Int32).toNatClampNeg (-1)) (fun f3 => (mi_run (mX6_list_b22 N t_p t_a t_b t_roots) N (0, 1, f3, t_ahead)).bind (fun o29 => match o29 with | (y8, y9, y10, y11) => some (y9, y10, y11))) else some (t_pointMany, t_points, t_ahead)
abbrev rmX6_list : Room := { frames := 2, cells := 0, slots := 0, locals := 44 }
set_option maxHeartbeats 4000000 in
set_option maxRecDepth 100000 in
theorem ctX6_list (l : Launch) (N : Nat) (dC : Nat → ClassId) (dI : Nat → Nat → Nat) (sz : Nat) (h0 : Nat) (h0_roots : Nat) (h0_points : Nat) (h0_ahead : Nat) (h0_inverses : Nat) (h0_ps : Nat) (h0_as : Nat) (h0_bs : Nat) (h0_from : Nat) (h0_kernelPoint : Nat) (h0_kernelOrder : Nat) (h0_marked : Nat) (h0_seen : Nat) (k_t_roots : ClassId) (k_t_points : ClassId) (k_t_ahead : ClassId) (t_p : Int32) (t_a : Int32) (t_b : Int32) (t_rooted : Int32) (t_pointMany : Int32) (t_curves : Int32) (t_roots : Nat → Int32) (t_points : Nat → Int32) (t_ahead : Nat → Int32) (rr : Int32 × (Nat → Int32) × (Nat → Int32)) (h : mX6_list N t_p t_a t_b t_pointMany t_roots t_points t_ahead = some rr) : Met l yX6_list wsX6_list rmX6_list (va_Pc [.ref h0] (fun U => U.heap.size = sz ∧ va_P (dC, dI) vwCl [(h0, .inr (5, [.int t_p, .int t_a, .int t_b, .ref h0_inverses, .ref h0_roots, .int t_rooted, .ref h0_points, .int t_pointMany, .ref h0_ahead, .int t_curves, .ref h0_ps, .ref h0_as, .ref h0_bs, .ref h0_from, .ref h0_kernelPoint, .ref h0_kernelOrder, .ref h0_marked, .ref h0_seen])), (h0_roots, .inl (k_t_roots, 10008, .inl t_roots)), (h0_points, .inl (k_t_points, 10300, .inl t_points)), (h0_ahead, .inl (k_t_ahead, 10008, .inl t_ahead))] U.heap ∧ va_K (dC, dI) vwCl [(k_t_roots, .int), (k_t_points, .int), (k_t_ahead, .int)] U ∧ nw_all U ∧ va_D (fun _ => True) [(h0, .inr (5, [.int t_p, .int t_a, .int t_b, .ref h0_inverses, .ref h0_roots, .int t_rooted, .ref h0_points, .int t_pointMany, .ref h0_ahead, .int t_curves, .ref h0_ps, .ref h0_as, .ref h0_bs, .ref h0_from, .ref h0_kernelPoint, .ref h0_kernelOrder, .ref h0_marked, .ref h0_seen])), (h0_roots, .inl (k_t_roots, 10008, .inl t_roots)), (h0_points, .inl (k_t_points, 10300, .inl t_points)), (h0_ahead, .inl (k_t_ahead, 10008, .inl t_ahead))])) (va_Qv (fun (u : Int32 × (Nat → Int32) × (Nat → Int32)) => u = rr) (fun (u : Int32 × (Nat → Int32) × (Nat → Int32)) t => match u with | (u0, u1, u2) => va_P (dC, dI) vwCl [(h0, .inr (5, [.int t_p, .int t_a, .int t_b, .ref h0_inverses, .ref h0_roots, .int t_rooted, .ref h0_points, .int u0, .ref h0_ahead, .int t_curves, .ref h0_ps, .ref h0_as, .ref h0_bs, .ref h0_from, .ref h0_kernelPoint, .ref h0_kernelOrder, .ref h0_marked, .ref h0_seen])), (h0_roots, .inl (k_t_roots, 10008, .inl t_roots)), (h0_points, .inl (k_t_points, 10300, .inl u1)), (h0_ahead, .inl (k_t_ahead, 10008, .inl u2))] t.heap ∧ va_K (dC, dI) vwCl [(k_t_roots, .int), (k_t_points, .int), (k_t_ahead, .int)] t ∧ va_D (va_A [(h0, .inr (5, [.int t_p, .int t_a, .int t_b, .ref h0_inverses, .ref h0_roots, .int t_rooted, .ref h0_points, .int t_pointMany, .ref h0_ahead, .int t_curves, .ref h0_ps, .ref h0_as, .ref h0_bs, .ref h0_from, .ref h0_kernelPoint, .ref h0_kernelOrder, .ref h0_marked, .ref h0_seen])), (h0_roots, .inl (k_t_roots, 10008, .inl t_roots)), (h0_points, .inl (k_t_points, 10300, .inl t_points)), (h0_ahead, .inl (k_t_ahead, 10008, .inl t_ahead))] sz) [(h0, .inr (5, [.int t_p, .int t_a, .int t_b, .ref h0_inverses, .ref h0_roots, .int t_rooted, .ref h0_points, .int u0, .ref h0_ahead, .int t_curves, .ref h0_ps, .ref h0_as, .ref h0_bs, .ref h0_from, .ref h0_kernelPoint, .ref h0_kernelOrder, .ref h0_marked, .ref h0_seen])), (h0_roots, .inl (k_t_roots, 10008, .inl t_roots)), (h0_points, .inl (k_t_points, 10300, .inl u1)), (h0_ahead, .inl (k_t_ahead, 10008, .inl u2))]) (va_A [(h0, .inr (5, [.int t_p, .int t_a, .int t_b, .ref h0_inverses, .ref h0_roots, .int t_rooted, .ref h0_points, .int t_pointMany, .ref h0_ahead, .int t_curves, .ref h0_ps, .ref h0_as, .ref h0_bs, .ref h0_from, .ref h0_kernelPoint, .ref h0_kernelOrder, .ref h0_marked, .ref h0_seen])), (h0_roots, .inl (k_t_roots, 10008, .inl t_roots)), (h0_points, .inl (k_t_points, 10300, .inl t_points)), (h0_ahead, .inl (k_t_ahead, 10008, .inl t_ahead))] sz)) 0 0 (va_A [(h0, .inr (5, [.int t_p, .int t_a, .int t_b, .ref h0_inverses, .ref h0_roots, .int t_rooted, .ref h0_points, .int t_pointMany, .ref h0_ahead, .int t_curves, .ref h0_ps, .ref h0_as, .ref h0_bs, .ref h0_from, .ref h0_kernelPoint, .ref h0_kernelOrder, .ref h0_marked, .ref h0_seen])), (h0_roots, .inl (k_t_roots, 10008, .inl t_roots)), (h0_points, .inl (k_t_points, 10300, .inl t_points)), (h0_ahead, .inl (k_t_ahead, 10008, .inl t_ahead))] sz) := by
  refine Met.ofW (cc := cX6_list) (maxL := 3) (ret := none) (by decide) rfl ?_
  intro p e s m args below meth c s₁ B hml hv
  obtain ⟨rfl, hsz, hP, hK, hN, hD0⟩ := hv
  have hx := B.exec
  have hb := B.bytes
  have hr := B.returns
  have hts := atoms_spec (ws := wsX6_list) B.pre
  have hown : s.vm.findClass RX6 = some m.cls := findClass_of_methodNamed B.named
  have hlocks := B.notSynchronized
  subst hsz
  have hD := hD0.self (sz := s.heap.size)
  generalize hAe : va_A [(h0, .inr (5, [.int t_p, .int t_a, .int t_b, .ref h0_inverses, .ref h0_roots, .int t_rooted, .ref h0_points, .int t_pointMany, .ref h0_ahead, .int t_curves, .ref h0_ps, .ref h0_as, .ref h0_bs, .ref h0_from, .ref h0_kernelPoint, .ref h0_kernelOrder, .ref h0_marked, .ref h0_seen])), (h0_roots, .inl (k_t_roots, 10008, .inl t_roots)), (h0_points, .inl (k_t_points, 10300, .inl t_points)), (h0_ahead, .inl (k_t_ahead, 10008, .inl t_ahead))] s.heap.size = A at hD ⊢
  have hA0 : ∀ q : Nat, s.heap.size ≤ q → A q := fun q h => by rw [← hAe]; exact Or.inr h
  have hS : va_S A s.heap s.heap [] := va_S.rf
  have hP : va_P (dC, dI) vwCl [(h0, .inr (5, [.int t_p, .int t_a, .int t_b, .ref h0_inverses, .ref h0_roots, .int t_rooted, .ref h0_points, .int t_pointMany, .ref h0_ahead, .int t_curves, .ref h0_ps, .ref h0_as, .ref h0_bs, .ref h0_from, .ref h0_kernelPoint, .ref h0_kernelOrder, .ref h0_marked, .ref h0_seen])), (h0_roots, .inl (k_t_roots, 10008, .inl t_roots)), (h0_points, .inl (k_t_points, 10300, .inl t_points)), (h0_ahead, .inl (k_t_ahead, 10008, .inl t_ahead))] s.heap := hP
  have hl := lv_entry ([.ref h0]) (n := 3) (Nat.le_of_ble_eq_true rfl)
  rw [lg_entry_eq]
  generalize (lg_sl ([.ref h0]) ++ List.replicate (3 - (lg_sl ([.ref h0])).length) Slot.unset).toArray = ls at hl ⊢
  have hl : lv_has ls 3 [(0, .ref h0)] := hl
  dsimp only [mX6_list] at h
  refine lv_aload_n hx hb dX6_list_0 rfl (lv_at hl 0 rfl) ?_
  refine va_get (D := (dC, dI)) (ci := 5) (v := .int t_pointMany) (C := RX6) (T := TX6) (N := 18) hx hb hts (by decide +kernel) hown hK hP 0 rfl rfl 7 (by decide) (hts (.fieldLink RX6 54 "PointRingsModel" "pointMany" "I") (by decide +kernel)) (fun _ h9 => h9) rfl dX6_list_1 ?_
  refine lv_if_le (tgt := 8) hx hb dX6_list_4 (by decide) (fun c1 => ?_) (fun c1 => ?_)
  · replace h := (if_pos c1).symm.trans h
    refine lv_aload_n hx hb dX6_list_8 rfl (lv_at hl 0 rfl) ?_
    refine va_get (D := (dC, dI)) (ci := 5) (v := .ref h0_points) (C := RX6) (T := TX6) (N := 18) hx hb hts (by decide +kernel) hown hK hP 0 rfl rfl 6 (by decide) (hts (.fieldLink RX6 16 "PointRingsModel" "points" "[I") (by decide +kernel)) (fun _ h9 => h9) rfl dX6_list_9 ?_
    refine lv_iconst (v := 0) hx hb dX6_list_12 (by decide) ?_
    refine lv_iconst (v := (-1)) hx hb dX6_list_13 (by decide) ?_
    have hi2 : ¬ ((0 : Int32) < 0 ∨ 10300 ≤ (0 : Int32).toNatClampNeg) := fun hz => absurd ((if_pos hz).symm.trans h) (fun hh => nomatch hh)
    replace h := (if_neg hi2).symm.trans h
    refine va_iast hx hb hK hP hD hS 2 1 rfl rfl hi2 dX6_list_14 (fun H locs hP hD hS => ?_)
    have hP : va_P (dC, dI) vwCl [(h0, .inr (5, [.int t_p, .int t_a, .int t_b, .ref h0_inverses, .ref h0_roots, .int t_rooted, .ref h0_points, .int t_pointMany, .ref h0_ahead, .int t_curves, .ref h0_ps, .ref h0_as, .ref h0_bs, .ref h0_from, .ref h0_kernelPoint, .ref h0_kernelOrder, .ref h0_marked, .ref h0_seen])), (h0_roots, .inl (k_t_roots, 10008, .inl t_roots)), (h0_points, .inl (k_t_points, 10300, .inl (upd t_points (0 : Int32).toNatClampNeg (-1)))), (h0_ahead, .inl (k_t_ahead, 10008, .inl t_ahead))] H := hP
    have hD : va_D A [(h0, .inr (5, [.int t_p, .int t_a, .int t_b, .ref h0_inverses, .ref h0_roots, .int t_rooted, .ref h0_points, .int t_pointMany, .ref h0_ahead, .int t_curves, .ref h0_ps, .ref h0_as, .ref h0_bs, .ref h0_from, .ref h0_kernelPoint, .ref h0_kernelOrder, .ref h0_marked, .ref h0_seen])), (h0_roots, .inl (k_t_roots, 10008, .inl t_roots)), (h0_points, .inl (k_t_points, 10300, .inl (upd t_points (0 : Int32).toNatClampNeg (-1)))), (h0_ahead, .inl (k_t_ahead, 10008, .inl t_ahead))] := hD
    obtain ⟨f3, ef3⟩ : ∃ z : Nat → Int32, z = upd t_points (0 : Int32).toNatClampNeg (-1) := ⟨_, rfl⟩
    rw [← ef3] at hP hD
    replace h := mi_use ef3 h
    refine lv_aload_n hx hb dX6_list_15 rfl (lv_at hl 0 rfl) ?_
    refine lv_iconst (v := 1) hx hb dX6_list_16 (by decide) ?_
    refine va_put (D := (dC, dI)) (ci := 5) (v := .int 1) (ty := .int) (C := RX6) (T := TX6) (N := 18) hx hb hts (by decide +kernel) tyX6 tyX6_ok nmX6 hown hK hP hD hS 0 rfl rfl 7 (by decide) (hts (.fieldLink RX6 54 "PointRingsModel" "pointMany" "I") (by decide +kernel)) (fun _ h9 => h9) rfl (by decide +kernel) rfl rfl (Nat.le_of_ble_eq_true rfl) dX6_list_17 (fun H locs hP hD hS => ?_)
    have hP : va_P (dC, dI) vwCl [(h0, .inr (5, [.int t_p, .int t_a, .int t_b, .ref h0_inverses, .ref h0_roots, .int t_rooted, .ref h0_points, .int 1, .ref h0_ahead, .int t_curves, .ref h0_ps, .ref h0_as, .ref h0_bs, .ref h0_from, .ref h0_kernelPoint, .ref h0_kernelOrder, .ref h0_marked, .ref h0_seen])), (h0_roots, .inl (k_t_roots, 10008, .inl t_roots)), (h0_points, .inl (k_t_points, 10300, .inl f3)), (h0_ahead, .inl (k_t_ahead, 10008, .inl t_ahead))] H := hP
    have hD : va_D A [(h0, .inr (5, [.int t_p, .int t_a, .int t_b, .ref h0_inverses, .ref h0_roots, .int t_rooted, .ref h0_points, .int 1, .ref h0_ahead, .int t_curves, .ref h0_ps, .ref h0_as, .ref h0_bs, .ref h0_from, .ref h0_kernelPoint, .ref h0_kernelOrder, .ref h0_marked, .ref h0_seen])), (h0_roots, .inl (k_t_roots, 10008, .inl t_roots)), (h0_points, .inl (k_t_points, 10300, .inl f3)), (h0_ahead, .inl (k_t_ahead, 10008, .inl t_ahead))] := hD
    refine lv_iconst (v := 0) hx hb dX6_list_20 (by decide) ?_
    refine lv_istore_n (lv' := [(1, .int 0), (0, .ref h0)]) hx hb dX6_list_21 rfl hl (by decide) rfl (fun ls hl => ?_)
    have L22 : ∀ (n : Nat) (x4 : Int32) (x5 : Int32) (x6 : Nat → Int32) (x7 : Nat → Int32) (o : Int32 × Int32 × (Nat → Int32) × (Nat → Int32)), mi_run (mX6_list_b22 N t_p t_a t_b t_roots) n (x4, x5, x6, x7) = some o → (∀ (y8 : Int32) (y9 : Int32) (y10 : Nat → Int32) (y11 : Nat → Int32), o = (y8, y9, y10, y11) → ∀ (H : Heap) (locs : List Loc) (ls : Array Slot), va_P (dC, dI) vwCl [(h0, .inr (5, [.int t_p, .int t_a, .int t_b, .ref h0_inverses, .ref h0_roots, .int t_rooted, .ref h0_points, .int y9, .ref h0_ahead, .int t_curves, .ref h0_ps, .ref h0_as, .ref h0_bs, .ref h0_from, .ref h0_kernelPoint, .ref h0_kernelOrder, .ref h0_marked, .ref h0_seen])), (h0_roots, .inl (k_t_roots, 10008, .inl t_roots)), (h0_points, .inl (k_t_points, 10300, .inl y10)), (h0_ahead, .inl (k_t_ahead, 10008, .inl y11))] H → va_D A [(h0, .inr (5, [.int t_p, .int t_a, .int t_b, .ref h0_inverses, .ref h0_roots, .int t_rooted, .ref h0_points, .int y9, .ref h0_ahead, .int t_curves, .ref h0_ps, .ref h0_as, .ref h0_bs, .ref h0_from, .ref h0_kernelPoint, .ref h0_kernelOrder, .ref h0_marked, .ref h0_seen])), (h0_roots, .inl (k_t_roots, 10008, .inl t_roots)), (h0_points, .inl (k_t_points, 10300, .inl y10)), (h0_ahead, .inl (k_t_ahead, 10008, .inl y11))] → va_S A s.heap H locs → lv_has ls 3 [(1, .int y8), (0, .ref h0)] → W p l e (headSpec wsX6_list rmX6_list).room s m (([.ref h0] : List Value).toArray) below meth c H locs 0 0 (MQ below (va_Qv (fun (u : Int32 × (Nat → Int32) × (Nat → Int32)) => u = rr) (fun (u : Int32 × (Nat → Int32) × (Nat → Int32)) t => match u with | (u0, u1, u2) => va_P (dC, dI) vwCl [(h0, .inr (5, [.int t_p, .int t_a, .int t_b, .ref h0_inverses, .ref h0_roots, .int t_rooted, .ref h0_points, .int u0, .ref h0_ahead, .int t_curves, .ref h0_ps, .ref h0_as, .ref h0_bs, .ref h0_from, .ref h0_kernelPoint, .ref h0_kernelOrder, .ref h0_marked, .ref h0_seen])), (h0_roots, .inl (k_t_roots, 10008, .inl t_roots)), (h0_points, .inl (k_t_points, 10300, .inl u1)), (h0_ahead, .inl (k_t_ahead, 10008, .inl u2))] t.heap ∧ va_K (dC, dI) vwCl [(k_t_roots, .int), (k_t_points, .int), (k_t_ahead, .int)] t ∧ va_D (A) [(h0, .inr (5, [.int t_p, .int t_a, .int t_b, .ref h0_inverses, .ref h0_roots, .int t_rooted, .ref h0_points, .int u0, .ref h0_ahead, .int t_curves, .ref h0_ps, .ref h0_as, .ref h0_bs, .ref h0_from, .ref h0_kernelPoint, .ref h0_kernelOrder, .ref h0_marked, .ref h0_seen])), (h0_roots, .inl (k_t_roots, 10008, .inl t_roots)), (h0_points, .inl (k_t_points, 10300, .inl u1)), (h0_ahead, .inl (k_t_ahead, 10008, .inl u2))]) (A)) (([.ref h0] : List Value).toArray) s 0 0 A) (F0 m 123 ls [])) → ∀ (H : Heap) (locs : List Loc) (ls : Array Slot), va_P (dC, dI) vwCl [(h0, .inr (5, [.int t_p, .int t_a, .int t_b, .ref h0_inverses, .ref h0_roots, .int t_rooted, .ref h0_points, .int x5, .ref h0_ahead, .int t_curves, .ref h0_ps, .ref h0_as, .ref h0_bs, .ref h0_from, .ref h0_kernelPoint, .ref h0_kernelOrder, .ref h0_marked, .ref h0_seen])), (h0_roots, .inl (k_t_roots, 10008, .inl t_roots)), (h0_points, .inl (k_t_points, 10300, .inl x6)), (h0_ahead, .inl (k_t_ahead, 10008, .inl x7))] H → va_D A [(h0, .inr (5, [.int t_p, .int t_a, .int t_b, .ref h0_inverses, .ref h0_roots, .int t_rooted, .ref h0_points, .int x5, .ref h0_ahead, .int t_curves, .ref h0_ps, .ref h0_as, .ref h0_bs, .ref h0_from, .ref h0_kernelPoint, .ref h0_kernelOrder, .ref h0_marked, .ref h0_seen])), (h0_roots, .inl (k_t_roots, 10008, .inl t_roots)), (h0_points, .inl (k_t_points, 10300, .inl x6)), (h0_ahead, .inl (k_t_ahead, 10008, .inl x7))] → va_S A s.heap H locs → lv_has ls 3 [(1, .int x4), (0, .ref h0)] → W p l e (headSpec wsX6_list rmX6_list).room s m (([.ref h0] : List Value).toArray) below meth c H locs 0 0 (MQ below (va_Qv (fun (u : Int32 × (Nat → Int32) × (Nat → Int32)) => u = rr) (fun (u : Int32 × (Nat → Int32) × (Nat → Int32)) t => match u with | (u0, u1, u2) => va_P (dC, dI) vwCl [(h0, .inr (5, [.int t_p, .int t_a, .int t_b, .ref h0_inverses, .ref h0_roots, .int t_rooted, .ref h0_points, .int u0, .ref h0_ahead, .int t_curves, .ref h0_ps, .ref h0_as, .ref h0_bs, .ref h0_from, .ref h0_kernelPoint, .ref h0_kernelOrder, .ref h0_marked, .ref h0_seen])), (h0_roots, .inl (k_t_roots, 10008, .inl t_roots)), (h0_points, .inl (k_t_points, 10300, .inl u1)), (h0_ahead, .inl (k_t_ahead, 10008, .inl u2))] t.heap ∧ va_K (dC, dI) vwCl [(k_t_roots, .int), (k_t_points, .int), (k_t_ahead, .int)] t ∧ va_D (A) [(h0, .inr (5, [.int t_p, .int t_a, .int t_b, .ref h0_inverses, .ref h0_roots, .int t_rooted, .ref h0_points, .int u0, .ref h0_ahead, .int t_curves, .ref h0_ps, .ref h0_as, .ref h0_bs, .ref h0_from, .ref h0_kernelPoint, .ref h0_kernelOrder, .ref h0_marked, .ref h0_seen])), (h0_roots, .inl (k_t_roots, 10008, .inl t_roots)), (h0_points, .inl (k_t_points, 10300, .inl u1)), (h0_ahead, .inl (k_t_ahead, 10008, .inl u2))]) (A)) (([.ref h0] : List Value).toArray) s 0 0 A) (F0 m 22 ls []) := by
      intro n
      induction n with
      | zero => intro x4 x5 x6 x7 o h; exact absurd h (mi_run_0 _ _ _)
      | succ n ih =>
        intro x4 x5 x6 x7 o h hkE H locs ls hP hD hS hl
        obtain ⟨w, h, hA, hB⟩ := mi_run_s h
        dsimp only [mX6_list_b22] at h
        refine lv_iload_n hx hb dX6_list_22 rfl (lv_at hl 0 rfl) ?_
        refine lv_aload_n hx hb dX6_list_23 rfl (lv_at hl 1 rfl) ?_
        refine va_get (D := (dC, dI)) (ci := 5) (v := .int t_p) (C := RX6) (T := TX6) (N := 18) hx hb hts (by decide +kernel) hown hK hP 0 rfl rfl 0 (by decide) (hts (.fieldLink RX6 47 "PointRingsModel" "p" "I") (by decide +kernel)) (fun _ h9 => h9) rfl dX6_list_24 ?_
        refine lv_icmp_ge (tgt := 123) hx hb dX6_list_27 (by decide) (fun c12 => ?_) (fun c12 => ?_)
        · replace h := (if_pos c12).symm.trans h
          exact hkE _ _ _ _ (hB _ (Option.some.inj h).symm) _ _ ls hP hD hS (lv_sub hl [0, 1] rfl)
        · replace h := (if_neg c12).symm.trans h
          refine lv_aload_n hx hb dX6_list_30 rfl (lv_at hl 1 rfl) ?_
          refine va_get (D := (dC, dI)) (ci := 5) (v := .ref h0_ahead) (C := RX6) (T := TX6) (N := 18) hx hb hts (by decide +kernel) hown hK hP 0 rfl rfl 8 (by decide) (hts (.fieldLink RX6 19 "PointRingsModel" "ahead" "[I") (by decide +kernel)) (fun _ h9 => h9) rfl dX6_list_31 ?_
          refine lv_iload_n hx hb dX6_list_34 rfl (lv_at hl 0 rfl) ?_
          refine lv_aload_n hx hb dX6_list_35 rfl (lv_at hl 1 rfl) ?_
          refine va_get (D := (dC, dI)) (ci := 5) (v := .int x5) (C := RX6) (T := TX6) (N := 18) hx hb hts (by decide +kernel) hown hK hP 0 rfl rfl 7 (by decide) (hts (.fieldLink RX6 54 "PointRingsModel" "pointMany" "I") (by decide +kernel)) (fun _ h9 => h9) rfl dX6_list_36 ?_
          have hi13 : ¬ (x4 < 0 ∨ 10008 ≤ x4.toNatClampNeg) := fun hz => absurd ((if_pos hz).symm.trans h) (fun hh => nomatch hh)
          replace h := (if_neg hi13).symm.trans h
          refine va_iast hx hb hK hP hD hS 3 2 rfl rfl hi13 dX6_list_39 (fun H locs hP hD hS => ?_)
          have hP : va_P (dC, dI) vwCl [(h0, .inr (5, [.int t_p, .int t_a, .int t_b, .ref h0_inverses, .ref h0_roots, .int t_rooted, .ref h0_points, .int x5, .ref h0_ahead, .int t_curves, .ref h0_ps, .ref h0_as, .ref h0_bs, .ref h0_from, .ref h0_kernelPoint, .ref h0_kernelOrder, .ref h0_marked, .ref h0_seen])), (h0_roots, .inl (k_t_roots, 10008, .inl t_roots)), (h0_points, .inl (k_t_points, 10300, .inl x6)), (h0_ahead, .inl (k_t_ahead, 10008, .inl (upd x7 x4.toNatClampNeg x5)))] H := hP
          have hD : va_D A [(h0, .inr (5, [.int t_p, .int t_a, .int t_b, .ref h0_inverses, .ref h0_roots, .int t_rooted, .ref h0_points, .int x5, .ref h0_ahead, .int t_curves, .ref h0_ps, .ref h0_as, .ref h0_bs, .ref h0_from, .ref h0_kernelPoint, .ref h0_kernelOrder, .ref h0_marked, .ref h0_seen])), (h0_roots, .inl (k_t_roots, 10008, .inl t_roots)), (h0_points, .inl (k_t_points, 10300, .inl x6)), (h0_ahead, .inl (k_t_ahead, 10008, .inl (upd x7 x4.toNatClampNeg x5)))] := hD
          obtain ⟨f14, ef14⟩ : ∃ z : Nat → Int32, z = upd x7 x4.toNatClampNeg x5 := ⟨_, rfl⟩
          rw [← ef14] at hP hD
          replace h := mi_use ef14 h
          refine lv_aload_n hx hb dX6_list_40 rfl (lv_at hl 1 rfl) ?_
          refine va_get (D := (dC, dI)) (ci := 5) (v := .ref h0_roots) (C := RX6) (T := TX6) (N := 18) hx hb hts (by decide +kernel) hown hK hP 0 rfl rfl 4 (by decide) (hts (.fieldLink RX6 13 "PointRingsModel" "roots" "[I") (by decide +kernel)) (fun _ h9 => h9) rfl dX6_list_41 ?_
          refine lv_aload_n hx hb dX6_list_44 rfl (lv_at hl 1 rfl) ?_
          refine lv_iload_n hx hb dX6_list_45 rfl (lv_at hl 0 rfl) ?_
          obtain ⟨r15, hr15, h⟩ := Option.bind_eq_some_iff.mp h
          have hPc := hP.sub (ws' := [(h0, .inr (5, [.int t_p, .int t_a, .int t_b, .ref h0_inverses, .ref h0_roots, .int t_rooted, .ref h0_points, .int x5, .ref h0_ahead, .int t_curves, .ref h0_ps, .ref h0_as, .ref h0_bs, .ref h0_from, .ref h0_kernelPoint, .ref h0_kernelOrder, .ref h0_marked, .ref h0_seen]))]) [0] rfl
          have hKc := hK.sub (tys' := []) [] rfl
          refine vp_callSi (W.runV (As := [.int x4]) (rest := [.ref h0_roots]) ⟨hx, hb, hml, hown, hts⟩ (ctX6_right l N dC dI  h0 h0_inverses h0_roots h0_points h0_ahead h0_ps h0_as h0_bs h0_from h0_kernelPoint h0_kernelOrder h0_marked h0_seen t_p t_a t_b t_rooted x5 t_curves x4 r15 hr15) (cwV 1 hts gX6_list_X6_right rfl rfl rfl (by decide +kernel) ⟨Nat.le_of_ble_eq_true rfl, Nat.le_of_ble_eq_true rfl⟩) ⟨fun a U g mk q => by obtain ⟨q0, qP, qK, qN⟩ := q; exact ⟨q0, qP, va_K.moved (u := U) (U := U.calling g mk a) (Vm.Alike.refl U.vm) qK, nw_same (u := U) (U := U.calling g mk a) rfl qN⟩, va_recv hKc hPc (ci := 5) (q0 := 0) rfl rfl, fun U hU hW => ⟨rfl, by rw [hU]; exact hPc, va_K.moved hW.alike hKc, nw_warm hW hN⟩⟩ rfl rfl hl.1 rfl (lv_room (Nat.le_of_ble_eq_true rfl)) dX6_list_46 ⟨Nat.le_of_ble_eq_true rfl, Nat.le_of_ble_eq_true rfl⟩) (fun q9 eq9 => ?_)
          subst q9
          have hi16 : ¬ (r15 < 0 ∨ 10008 ≤ r15.toNatClampNeg) := fun hz => absurd ((if_pos hz).symm.trans h) (fun hh => nomatch hh)
          replace h := (if_neg hi16).symm.trans h
          refine va_iald hx hb hK hP 1 0 rfl rfl hi16 dX6_list_49 ?_
          refine lv_topi (fun v17 ev17 => ?_)
          replace h := mi_use ev17 h
          refine lv_istore_n (lv' := [(2, .int v17), (1, .int x4), (0, .ref h0)]) hx hb dX6_list_50 rfl hl (by decide) rfl (fun ls hl => ?_)
          refine lv_iload_n hx hb dX6_list_51 rfl (lv_at hl 0 rfl) ?_
          refine lv_iconst (v := (-1)) hx hb dX6_list_52 (by decide) ?_
          refine lv_icmp_eq (tgt := 117) hx hb dX6_list_53 (by decide) (fun c18 => ?_) (fun c18 => ?_)
          · replace h := (if_pos c18).symm.trans h
            obtain ⟨v19, ev19⟩ : ∃ z : Int32, z = x4 + 1 := ⟨_, rfl⟩
            refine lv_iinc (v := v19) (lv' := [(1, .int v19), (2, .int v17), (0, .ref h0)]) hx hb dX6_list_117 hl (k := 1) rfl (by rw [ev19]; rfl) (by decide) rfl (fun ls hl => ?_)
            replace h := mi_use ev19 h
            refine lv_goto (tgt := 22) hx hb dX6_list_120 (by decide) ?_
            exact ih _ _ _ _ _ (hA _ (Option.some.inj h).symm) hkE _ _ ls hP hD hS (lv_sub hl [0, 2] rfl)
          · replace h := (if_neg c18).symm.trans h
            refine lv_aload_n hx hb dX6_list_56 rfl (lv_at hl 2 rfl) ?_
            refine va_get (D := (dC, dI)) (ci := 5) (v := .ref h0_points) (C := RX6) (T := TX6) (N := 18) hx hb hts (by decide +kernel) hown hK hP 0 rfl rfl 6 (by decide) (hts (.fieldLink RX6 16 "PointRingsModel" "points" "[I") (by decide +kernel)) (fun _ h9 => h9) rfl dX6_list_57 ?_
            refine lv_aload_n hx hb dX6_list_60 rfl (lv_at hl 2 rfl) ?_
            refine va_get (D := (dC, dI)) (ci := 5) (v := .int x5) (C := RX6) (T := TX6) (N := 18) hx hb hts (by decide +kernel) hown hK hP 0 rfl rfl 7 (by decide) (hts (.fieldLink RX6 54 "PointRingsModel" "pointMany" "I") (by decide +kernel)) (fun _ h9 => h9) rfl dX6_list_61 ?_
            refine lv_sipush (v := 16384) hx hb dX6_list_64 (by decide) ?_
            refine lv_iload_n hx hb dX6_list_67 rfl (lv_at hl 1 rfl) ?_
            refine lv_imul hx hb dX6_list_68 ?_
            refine lv_iload_n hx hb dX6_list_69 rfl (lv_at hl 0 rfl) ?_
            refine lv_iadd hx hb dX6_list_70 ?_
            have hi20 : ¬ (x5 < 0 ∨ 10300 ≤ x5.toNatClampNeg) := fun hz => absurd ((if_pos hz).symm.trans h) (fun hh => nomatch hh)
            replace h := (if_neg hi20).symm.trans h
            refine va_iast hx hb hK hP hD hS 2 1 rfl rfl hi20 dX6_list_71 (fun H locs hP hD hS => ?_)
            have hP : va_P (dC, dI) vwCl [(h0, .inr (5, [.int t_p, .int t_a, .int t_b, .ref h0_inverses, .ref h0_roots, .int t_rooted, .ref h0_points, .int x5, .ref h0_ahead, .int t_curves, .ref h0_ps, .ref h0_as, .ref h0_bs, .ref h0_from, .ref h0_kernelPoint, .ref h0_kernelOrder, .ref h0_marked, .ref h0_seen])), (h0_roots, .inl (k_t_roots, 10008, .inl t_roots)), (h0_points, .inl (k_t_points, 10300, .inl (upd x6 x5.toNatClampNeg ((16384 * x4) + v17)))), (h0_ahead, .inl (k_t_ahead, 10008, .inl f14))] H := hP
            have hD : va_D A [(h0, .inr (5, [.int t_p, .int t_a, .int t_b, .ref h0_inverses, .ref h0_roots, .int t_rooted, .ref h0_points, .int x5, .ref h0_ahead, .int t_curves, .ref h0_ps, .ref h0_as, .ref h0_bs, .ref h0_from, .ref h0_kernelPoint, .ref h0_kernelOrder, .ref h0_marked, .ref h0_seen])), (h0_roots, .inl (k_t_roots, 10008, .inl t_roots)), (h0_points, .inl (k_t_points, 10300, .inl (upd x6 x5.toNatClampNeg ((16384 * x4) + v17)))), (h0_ahead, .inl (k_t_ahead, 10008, .inl f14))] := hD
            obtain ⟨f21, ef21⟩ : ∃ z : Nat → Int32, z = upd x6 x5.toNatClampNeg ((16384 * x4) + v17) := ⟨_, rfl⟩
            rw [← ef21] at hP hD
            replace h := mi_use ef21 h
            refine lv_aload_n hx hb dX6_list_72 rfl (lv_at hl 2 rfl) ?_
            refine lv_dup hx hb dX6_list_73 rfl ?_
            refine va_get (D := (dC, dI)) (ci := 5) (v := .int x5) (C := RX6) (T := TX6) (N := 18) hx hb hts (by decide +kernel) hown hK hP 0 rfl rfl 7 (by decide) (hts (.fieldLink RX6 54 "PointRingsModel" "pointMany" "I") (by decide +kernel)) (fun _ h9 => h9) rfl dX6_list_74 ?_
            refine lv_iconst (v := 1) hx hb dX6_list_77 (by decide) ?_
            refine lv_iadd hx hb dX6_list_78 ?_
            refine lv_topi (fun v22 ev22 => ?_)
            replace h := mi_use ev22 h
            refine va_put (D := (dC, dI)) (ci := 5) (v := .int v22) (ty := .int) (C := RX6) (T := TX6) (N := 18) hx hb hts (by decide +kernel) tyX6 tyX6_ok nmX6 hown hK hP hD hS 0 rfl rfl 7 (by decide) (hts (.fieldLink RX6 54 "PointRingsModel" "pointMany" "I") (by decide +kernel)) (fun _ h9 => h9) rfl (by decide +kernel) rfl rfl (Nat.le_of_ble_eq_true rfl) dX6_list_79 (fun H locs hP hD hS => ?_)
            have hP : va_P (dC, dI) vwCl [(h0, .inr (5, [.int t_p, .int t_a, .int t_b, .ref h0_inverses, .ref h0_roots, .int t_rooted, .ref h0_points, .int v22, .ref h0_ahead, .int t_curves, .ref h0_ps, .ref h0_as, .ref h0_bs, .ref h0_from, .ref h0_kernelPoint, .ref h0_kernelOrder, .ref h0_marked, .ref h0_seen])), (h0_roots, .inl (k_t_roots, 10008, .inl t_roots)), (h0_points, .inl (k_t_points, 10300, .inl f21)), (h0_ahead, .inl (k_t_ahead, 10008, .inl f14))] H := hP
            have hD : va_D A [(h0, .inr (5, [.int t_p, .int t_a, .int t_b, .ref h0_inverses, .ref h0_roots, .int t_rooted, .ref h0_points, .int v22, .ref h0_ahead, .int t_curves, .ref h0_ps, .ref h0_as, .ref h0_bs, .ref h0_from, .ref h0_kernelPoint, .ref h0_kernelOrder, .ref h0_marked, .ref h0_seen])), (h0_roots, .inl (k_t_roots, 10008, .inl t_roots)), (h0_points, .inl (k_t_points, 10300, .inl f21)), (h0_ahead, .inl (k_t_ahead, 10008, .inl f14))] := hD
            refine lv_iload_n hx hb dX6_list_82 rfl (lv_at hl 0 rfl) ?_
            refine lv_if_le (tgt := 117) hx hb dX6_list_83 (by decide) (fun c23 => ?_) (fun c23 => ?_)
            · replace h := (if_pos c23).symm.trans h
              obtain ⟨v24, ev24⟩ : ∃ z : Int32, z = x4 + 1 := ⟨_, rfl⟩
              refine lv_iinc (v := v24) (lv' := [(1, .int v24), (2, .int v17), (0, .ref h0)]) hx hb dX6_list_117 hl (k := 1) rfl (by rw [ev24]; rfl) (by decide) rfl (fun ls hl => ?_)
              replace h := mi_use ev24 h
              refine lv_goto (tgt := 22) hx hb dX6_list_120 (by decide) ?_
              exact ih _ _ _ _ _ (hA _ (Option.some.inj h).symm) hkE _ _ ls hP hD hS (lv_sub hl [0, 2] rfl)
            · replace h := (if_neg c23).symm.trans h
              refine lv_aload_n hx hb dX6_list_86 rfl (lv_at hl 2 rfl) ?_
              refine va_get (D := (dC, dI)) (ci := 5) (v := .ref h0_points) (C := RX6) (T := TX6) (N := 18) hx hb hts (by decide +kernel) hown hK hP 0 rfl rfl 6 (by decide) (hts (.fieldLink RX6 16 "PointRingsModel" "points" "[I") (by decide +kernel)) (fun _ h9 => h9) rfl dX6_list_87 ?_
              refine lv_aload_n hx hb dX6_list_90 rfl (lv_at hl 2 rfl) ?_
              refine va_get (D := (dC, dI)) (ci := 5) (v := .int v22) (C := RX6) (T := TX6) (N := 18) hx hb hts (by decide +kernel) hown hK hP 0 rfl rfl 7 (by decide) (hts (.fieldLink RX6 54 "PointRingsModel" "pointMany" "I") (by decide +kernel)) (fun _ h9 => h9) rfl dX6_list_91 ?_
              refine lv_sipush (v := 16384) hx hb dX6_list_94 (by decide) ?_
              refine lv_iload_n hx hb dX6_list_97 rfl (lv_at hl 1 rfl) ?_
              refine lv_imul hx hb dX6_list_98 ?_
              refine lv_aload_n hx hb dX6_list_99 rfl (lv_at hl 2 rfl) ?_
              refine va_get (D := (dC, dI)) (ci := 5) (v := .int t_p) (C := RX6) (T := TX6) (N := 18) hx hb hts (by decide +kernel) hown hK hP 0 rfl rfl 0 (by decide) (hts (.fieldLink RX6 47 "PointRingsModel" "p" "I") (by decide +kernel)) (fun _ h9 => h9) rfl dX6_list_100 ?_
              refine lv_iadd hx hb dX6_list_103 ?_
              refine lv_iload_n hx hb dX6_list_104 rfl (lv_at hl 0 rfl) ?_
              refine lv_isub hx hb dX6_list_105 ?_
              have hi25 : ¬ (v22 < 0 ∨ 10300 ≤ v22.toNatClampNeg) := fun hz => absurd ((if_pos hz).symm.trans h) (fun hh => nomatch hh)
              replace h := (if_neg hi25).symm.trans h
              refine va_iast hx hb hK hP hD hS 2 1 rfl rfl hi25 dX6_list_106 (fun H locs hP hD hS => ?_)
              have hP : va_P (dC, dI) vwCl [(h0, .inr (5, [.int t_p, .int t_a, .int t_b, .ref h0_inverses, .ref h0_roots, .int t_rooted, .ref h0_points, .int v22, .ref h0_ahead, .int t_curves, .ref h0_ps, .ref h0_as, .ref h0_bs, .ref h0_from, .ref h0_kernelPoint, .ref h0_kernelOrder, .ref h0_marked, .ref h0_seen])), (h0_roots, .inl (k_t_roots, 10008, .inl t_roots)), (h0_points, .inl (k_t_points, 10300, .inl (upd f21 v22.toNatClampNeg (((16384 * x4) + t_p) - v17)))), (h0_ahead, .inl (k_t_ahead, 10008, .inl f14))] H := hP
              have hD : va_D A [(h0, .inr (5, [.int t_p, .int t_a, .int t_b, .ref h0_inverses, .ref h0_roots, .int t_rooted, .ref h0_points, .int v22, .ref h0_ahead, .int t_curves, .ref h0_ps, .ref h0_as, .ref h0_bs, .ref h0_from, .ref h0_kernelPoint, .ref h0_kernelOrder, .ref h0_marked, .ref h0_seen])), (h0_roots, .inl (k_t_roots, 10008, .inl t_roots)), (h0_points, .inl (k_t_points, 10300, .inl (upd f21 v22.toNatClampNeg (((16384 * x4) + t_p) - v17)))), (h0_ahead, .inl (k_t_ahead, 10008, .inl f14))] := hD
              obtain ⟨f26, ef26⟩ : ∃ z : Nat → Int32, z = upd f21 v22.toNatClampNeg (((16384 * x4) + t_p) - v17) := ⟨_, rfl⟩
              rw [← ef26] at hP hD
              replace h := mi_use ef26 h
              refine lv_aload_n hx hb dX6_list_107 rfl (lv_at hl 2 rfl) ?_
              refine lv_dup hx hb dX6_list_108 rfl ?_
              refine va_get (D := (dC, dI)) (ci := 5) (v := .int v22) (C := RX6) (T := TX6) (N := 18) hx hb hts (by decide +kernel) hown hK hP 0 rfl rfl 7 (by decide) (hts (.fieldLink RX6 54 "PointRingsModel" "pointMany" "I") (by decide +kernel)) (fun _ h9 => h9) rfl dX6_list_109 ?_
              refine lv_iconst (v := 1) hx hb dX6_list_112 (by decide) ?_
              refine lv_iadd hx hb dX6_list_113 ?_
              refine lv_topi (fun v27 ev27 => ?_)
              replace h := mi_use ev27 h
              refine va_put (D := (dC, dI)) (ci := 5) (v := .int v27) (ty := .int) (C := RX6) (T := TX6) (N := 18) hx hb hts (by decide +kernel) tyX6 tyX6_ok nmX6 hown hK hP hD hS 0 rfl rfl 7 (by decide) (hts (.fieldLink RX6 54 "PointRingsModel" "pointMany" "I") (by decide +kernel)) (fun _ h9 => h9) rfl (by decide +kernel) rfl rfl (Nat.le_of_ble_eq_true rfl) dX6_list_114 (fun H locs hP hD hS => ?_)
              have hP : va_P (dC, dI) vwCl [(h0, .inr (5, [.int t_p, .int t_a, .int t_b, .ref h0_inverses, .ref h0_roots, .int t_rooted, .ref h0_points, .int v27, .ref h0_ahead, .int t_curves, .ref h0_ps, .ref h0_as, .ref h0_bs, .ref h0_from, .ref h0_kernelPoint, .ref h0_kernelOrder, .ref h0_marked, .ref h0_seen])), (h0_roots, .inl (k_t_roots, 10008, .inl t_roots)), (h0_points, .inl (k_t_points, 10300, .inl f26)), (h0_ahead, .inl (k_t_ahead, 10008, .inl f14))] H := hP
              have hD : va_D A [(h0, .inr (5, [.int t_p, .int t_a, .int t_b, .ref h0_inverses, .ref h0_roots, .int t_rooted, .ref h0_points, .int v27, .ref h0_ahead, .int t_curves, .ref h0_ps, .ref h0_as, .ref h0_bs, .ref h0_from, .ref h0_kernelPoint, .ref h0_kernelOrder, .ref h0_marked, .ref h0_seen])), (h0_roots, .inl (k_t_roots, 10008, .inl t_roots)), (h0_points, .inl (k_t_points, 10300, .inl f26)), (h0_ahead, .inl (k_t_ahead, 10008, .inl f14))] := hD
              obtain ⟨v28, ev28⟩ : ∃ z : Int32, z = x4 + 1 := ⟨_, rfl⟩
              refine lv_iinc (v := v28) (lv' := [(1, .int v28), (2, .int v17), (0, .ref h0)]) hx hb dX6_list_117 hl (k := 1) rfl (by rw [ev28]; rfl) (by decide) rfl (fun ls hl => ?_)
              replace h := mi_use ev28 h
              refine lv_goto (tgt := 22) hx hb dX6_list_120 (by decide) ?_
              exact ih _ _ _ _ _ (hA _ (Option.some.inj h).symm) hkE _ _ ls hP hD hS (lv_sub hl [0, 2] rfl)
    obtain ⟨o29, ho29, h⟩ := Option.bind_eq_some_iff.mp h
    refine L22 N _ _ _ _ o29 ho29 ?_ _ _ ls hP hD hS (lv_sub hl [0, 1] rfl)
    intro y8 y9 y10 y11 eo H locs ls hP hD hS hl
    subst eo
    try dsimp only at h
    have hv : (y9, y10, y11) = rr := Option.some.inj h
    have hP9 := hP.sub (ws' := [(h0, .inr (5, [.int t_p, .int t_a, .int t_b, .ref h0_inverses, .ref h0_roots, .int t_rooted, .ref h0_points, .int y9, .ref h0_ahead, .int t_curves, .ref h0_ps, .ref h0_as, .ref h0_bs, .ref h0_from, .ref h0_kernelPoint, .ref h0_kernelOrder, .ref h0_marked, .ref h0_seen])), (h0_roots, .inl (k_t_roots, 10008, .inl t_roots)), (h0_points, .inl (k_t_points, 10300, .inl y10)), (h0_ahead, .inl (k_t_ahead, 10008, .inl y11))]) [0, 1, 2, 3] rfl
    have hD9 := hD.sub (ws' := [(h0, .inr (5, [.int t_p, .int t_a, .int t_b, .ref h0_inverses, .ref h0_roots, .int t_rooted, .ref h0_points, .int y9, .ref h0_ahead, .int t_curves, .ref h0_ps, .ref h0_as, .ref h0_bs, .ref h0_from, .ref h0_kernelPoint, .ref h0_kernelOrder, .ref h0_marked, .ref h0_seen])), (h0_roots, .inl (k_t_roots, 10008, .inl t_roots)), (h0_points, .inl (k_t_points, 10300, .inl y10)), (h0_ahead, .inl (k_t_ahead, 10008, .inl y11))]) [0, 1, 2, 3] (by decide) rfl
    have hK9 := hK.sub (tys' := [(k_t_roots, .int), (k_t_points, .int), (k_t_ahead, .int)]) [0, 1, 2] rfl
    exact W.vret hx hb hr (fun t ht hW => ⟨⟨(y9, y10, y11), rfl, hv, by rw [ht]; exact hP9, va_K.moved hW.alike hK9, hD9⟩, hS.F ht⟩) hS.2.2 dX6_list_123
  · replace h := (if_neg c1).symm.trans h
    have hv : (t_pointMany, t_points, t_ahead) = rr := Option.some.inj h
    have hP9 := hP.sub (ws' := [(h0, .inr (5, [.int t_p, .int t_a, .int t_b, .ref h0_inverses, .ref h0_roots, .int t_rooted, .ref h0_points, .int t_pointMany, .ref h0_ahead, .int t_curves, .ref h0_ps, .ref h0_as, .ref h0_bs, .ref h0_from, .ref h0_kernelPoint, .ref h0_kernelOrder, .ref h0_marked, .ref h0_seen])), (h0_roots, .inl (k_t_roots, 10008, .inl t_roots)), (h0_points, .inl (k_t_points, 10300, .inl t_points)), (h0_ahead, .inl (k_t_ahead, 10008, .inl t_ahead))]) [0, 1, 2, 3] rfl
    have hD9 := hD.sub (ws' := [(h0, .inr (5, [.int t_p, .int t_a, .int t_b, .ref h0_inverses, .ref h0_roots, .int t_rooted, .ref h0_points, .int t_pointMany, .ref h0_ahead, .int t_curves, .ref h0_ps, .ref h0_as, .ref h0_bs, .ref h0_from, .ref h0_kernelPoint, .ref h0_kernelOrder, .ref h0_marked, .ref h0_seen])), (h0_roots, .inl (k_t_roots, 10008, .inl t_roots)), (h0_points, .inl (k_t_points, 10300, .inl t_points)), (h0_ahead, .inl (k_t_ahead, 10008, .inl t_ahead))]) [0, 1, 2, 3] (by decide) rfl
    have hK9 := hK.sub (tys' := [(k_t_roots, .int), (k_t_points, .int), (k_t_ahead, .int)]) [0, 1, 2] rfl
    exact W.vret hx hb hr (fun t ht hW => ⟨⟨(t_pointMany, t_points, t_ahead), rfl, hv, by rw [ht]; exact hP9, va_K.moved hW.alike hK9, hD9⟩, hS.F ht⟩) hS.2.2 dX6_list_7
def mX6_isPoint (N : Nat) (t_p : Int32) (t_a : Int32) (t_b : Int32) (a0 : Int32) : Option (Int32) := if a0 = (-1) then some 1 else if a0 < 0 then some 0 else mi_let (a0 / 16384) (fun v3 => if t_p ≤ v3 then some 0 else mi_let (mi_rem a0 16384) (fun v5 => if v5 < t_p then mi_let (mi_rem a0 16384) (fun v7 => (mX6_mul N t_p v7 v7).bind (fun r8 => mi_let (a0 / 16384) (fun v9 => (mX6_right N t_p t_a t_b v9).bind (fun r10 => if r8 = r10 then some 1 else some 0)))) else some 0))
abbrev rmX6_isPoint : Room := { frames := 2, cells := 0, slots := 0, locals := 44 }
set_option maxHeartbeats 4000000 in
set_option maxRecDepth 100000 in
theorem ctX6_isPoint (l : Launch) (N : Nat) (dC : Nat → ClassId) (dI : Nat → Nat → Nat) (h0 : Nat) (h0_inverses : Nat) (h0_roots : Nat) (h0_points : Nat) (h0_ahead : Nat) (h0_ps : Nat) (h0_as : Nat) (h0_bs : Nat) (h0_from : Nat) (h0_kernelPoint : Nat) (h0_kernelOrder : Nat) (h0_marked : Nat) (h0_seen : Nat) (t_p : Int32) (t_a : Int32) (t_b : Int32) (t_rooted : Int32) (t_pointMany : Int32) (t_curves : Int32) (a0 : Int32) (rr : Int32) (h : mX6_isPoint N t_p t_a t_b a0 = some rr) : Met l yX6_isPoint wsX6_isPoint rmX6_isPoint (va_Pc [.ref h0, .int a0] (fun U => va_P (dC, dI) vwCl [(h0, .inr (5, [.int t_p, .int t_a, .int t_b, .ref h0_inverses, .ref h0_roots, .int t_rooted, .ref h0_points, .int t_pointMany, .ref h0_ahead, .int t_curves, .ref h0_ps, .ref h0_as, .ref h0_bs, .ref h0_from, .ref h0_kernelPoint, .ref h0_kernelOrder, .ref h0_marked, .ref h0_seen]))] U.heap ∧ va_K (dC, dI) vwCl [] U ∧ nw_all U)) (vp_Si (fun r => r = rr)) 0 0 (fun _ => False) := by
  refine Met.ofW (cc := cX6_isPoint) (maxL := 3) (ret := (some .boolean)) (by decide) rfl ?_
  intro p e s m args below meth c s₁ B hml hv
  obtain ⟨rfl, hP, hK, hN⟩ := hv
  have hx := B.exec
  have hb := B.bytes
  have hr := B.returns
  have hts := atoms_spec (ws := wsX6_isPoint) B.pre
  have hown : s.vm.findClass RX6 = some m.cls := findClass_of_methodNamed B.named
  have hlocks := B.notSynchronized
  have hl := lv_entry ([.ref h0, .int a0]) (n := 3) (Nat.le_of_ble_eq_true rfl)
  rw [lg_entry_eq]
  generalize (lg_sl ([.ref h0, .int a0]) ++ List.replicate (3 - (lg_sl ([.ref h0, .int a0])).length) Slot.unset).toArray = ls at hl ⊢
  have hl : lv_has ls 3 [(0, .ref h0), (1, .int a0)] := hl
  dsimp only [mX6_isPoint] at h
  refine lv_iload_n hx hb dX6_isPoint_0 rfl (lv_at hl 1 rfl) ?_
  refine lv_iconst (v := (-1)) hx hb dX6_isPoint_1 (by decide) ?_
  refine lv_icmp_ne (tgt := 7) hx hb dX6_isPoint_2 (by decide) (fun c1 => ?_) (fun c1 => ?_)
  · replace h := (if_neg c1).symm.trans h
    refine lv_iload_n hx hb dX6_isPoint_7 rfl (lv_at hl 1 rfl) ?_
    refine lv_if_lt (tgt := 35) hx hb dX6_isPoint_8 (by decide) (fun c2 => ?_) (fun c2 => ?_)
    · replace h := (if_pos c2).symm.trans h
      refine lv_iconst (v := 0) hx hb dX6_isPoint_35 (by decide) ?_
      have hv : 0 = rr := Option.some.inj h
      exact W.zret (v := 0) hx hb hr (by decide) (fun t ht hW => ⟨_, rfl, hv, ht⟩) (fun q hq => absurd hq List.not_mem_nil) dX6_isPoint_36
    · replace h := (if_neg c2).symm.trans h
      refine lv_iload_n hx hb dX6_isPoint_11 rfl (lv_at hl 1 rfl) ?_
      refine lv_sipush (v := 16384) hx hb dX6_isPoint_12 (by decide) ?_
      refine lv_idiv hx hb dX6_isPoint_15 (by decide) ?_
      refine lv_topi (fun v3 ev3 => ?_)
      replace h := mi_use ev3 h
      refine lv_aload_n hx hb dX6_isPoint_16 rfl (lv_at hl 0 rfl) ?_
      refine va_get (D := (dC, dI)) (ci := 5) (v := .int t_p) (C := RX6) (T := TX6) (N := 18) hx hb hts (by decide +kernel) hown hK hP 0 rfl rfl 0 (by decide) (hts (.fieldLink RX6 47 "PointRingsModel" "p" "I") (by decide +kernel)) (fun _ h9 => h9) rfl dX6_isPoint_17 ?_
      refine lv_icmp_ge (tgt := 35) hx hb dX6_isPoint_20 (by decide) (fun c4 => ?_) (fun c4 => ?_)
      · replace h := (if_pos c4).symm.trans h
        refine lv_iconst (v := 0) hx hb dX6_isPoint_35 (by decide) ?_
        have hv : 0 = rr := Option.some.inj h
        exact W.zret (v := 0) hx hb hr (by decide) (fun t ht hW => ⟨_, rfl, hv, ht⟩) (fun q hq => absurd hq List.not_mem_nil) dX6_isPoint_36
      · replace h := (if_neg c4).symm.trans h
        refine lv_iload_n hx hb dX6_isPoint_23 rfl (lv_at hl 1 rfl) ?_
        refine lv_sipush (v := 16384) hx hb dX6_isPoint_24 (by decide) ?_
        refine lv_irem hx hb dX6_isPoint_27 (by decide) ?_
        refine lv_topi (fun v5 ev5 => ?_)
        replace h := mi_use ev5 h
        refine lv_aload_n hx hb dX6_isPoint_28 rfl (lv_at hl 0 rfl) ?_
        refine va_get (D := (dC, dI)) (ci := 5) (v := .int t_p) (C := RX6) (T := TX6) (N := 18) hx hb hts (by decide +kernel) hown hK hP 0 rfl rfl 0 (by decide) (hts (.fieldLink RX6 47 "PointRingsModel" "p" "I") (by decide +kernel)) (fun _ h9 => h9) rfl dX6_isPoint_29 ?_
        refine lv_icmp_lt (tgt := 37) hx hb dX6_isPoint_32 (by decide) (fun c6 => ?_) (fun c6 => ?_)
        · replace h := (if_pos c6).symm.trans h
          refine lv_iload_n hx hb dX6_isPoint_37 rfl (lv_at hl 1 rfl) ?_
          refine lv_sipush (v := 16384) hx hb dX6_isPoint_38 (by decide) ?_
          refine lv_irem hx hb dX6_isPoint_41 (by decide) ?_
          refine lv_topi (fun v7 ev7 => ?_)
          replace h := mi_use ev7 h
          refine lv_istore_n (lv' := [(2, .int v7), (0, .ref h0), (1, .int a0)]) hx hb dX6_isPoint_42 rfl hl (by decide) rfl (fun ls hl => ?_)
          refine lv_aload_n hx hb dX6_isPoint_43 rfl (lv_at hl 1 rfl) ?_
          refine lv_iload_n hx hb dX6_isPoint_44 rfl (lv_at hl 0 rfl) ?_
          refine lv_iload_n hx hb dX6_isPoint_45 rfl (lv_at hl 0 rfl) ?_
          obtain ⟨r8, hr8, h⟩ := Option.bind_eq_some_iff.mp h
          have hPc := hP.sub (ws' := [(h0, .inr (5, [.int t_p, .int t_a, .int t_b, .ref h0_inverses, .ref h0_roots, .int t_rooted, .ref h0_points, .int t_pointMany, .ref h0_ahead, .int t_curves, .ref h0_ps, .ref h0_as, .ref h0_bs, .ref h0_from, .ref h0_kernelPoint, .ref h0_kernelOrder, .ref h0_marked, .ref h0_seen]))]) [0] rfl
          have hKc := hK.sub (tys' := []) [] rfl
          refine vp_callSi (W.runV (As := [.int v7, .int v7]) (rest := []) ⟨hx, hb, hml, hown, hts⟩ (ctX6_mul l N dC dI  h0 h0_inverses h0_roots h0_points h0_ahead h0_ps h0_as h0_bs h0_from h0_kernelPoint h0_kernelOrder h0_marked h0_seen t_p t_a t_b t_rooted t_pointMany t_curves v7 v7 r8 hr8) (cwV 2 hts gX6_isPoint_X6_mul rfl rfl rfl (by decide +kernel) ⟨Nat.le_of_ble_eq_true rfl, Nat.le_of_ble_eq_true rfl⟩) ⟨fun a U g mk q => by obtain ⟨q0, qP, qK, qN⟩ := q; exact ⟨q0, qP, va_K.moved (u := U) (U := U.calling g mk a) (Vm.Alike.refl U.vm) qK, nw_same (u := U) (U := U.calling g mk a) rfl qN⟩, va_recv hKc hPc (ci := 5) (q0 := 0) rfl rfl, fun U hU hW => ⟨rfl, by rw [hU]; exact hPc, va_K.moved hW.alike hKc, nw_warm hW hN⟩⟩ rfl rfl hl.1 rfl (lv_room (Nat.le_of_ble_eq_true rfl)) dX6_isPoint_46 ⟨Nat.le_of_ble_eq_true rfl, Nat.le_of_ble_eq_true rfl⟩) (fun q9 eq9 => ?_)
          subst q9
          refine lv_aload_n hx hb dX6_isPoint_49 rfl (lv_at hl 1 rfl) ?_
          refine lv_iload_n hx hb dX6_isPoint_50 rfl (lv_at hl 2 rfl) ?_
          refine lv_sipush (v := 16384) hx hb dX6_isPoint_51 (by decide) ?_
          refine lv_idiv hx hb dX6_isPoint_54 (by decide) ?_
          refine lv_topi (fun v9 ev9 => ?_)
          replace h := mi_use ev9 h
          obtain ⟨r10, hr10, h⟩ := Option.bind_eq_some_iff.mp h
          have hPc := hP.sub (ws' := [(h0, .inr (5, [.int t_p, .int t_a, .int t_b, .ref h0_inverses, .ref h0_roots, .int t_rooted, .ref h0_points, .int t_pointMany, .ref h0_ahead, .int t_curves, .ref h0_ps, .ref h0_as, .ref h0_bs, .ref h0_from, .ref h0_kernelPoint, .ref h0_kernelOrder, .ref h0_marked, .ref h0_seen]))]) [0] rfl
          have hKc := hK.sub (tys' := []) [] rfl
          refine vp_callSi (W.runV (As := [.int v9]) (rest := [.int r8]) ⟨hx, hb, hml, hown, hts⟩ (ctX6_right l N dC dI  h0 h0_inverses h0_roots h0_points h0_ahead h0_ps h0_as h0_bs h0_from h0_kernelPoint h0_kernelOrder h0_marked h0_seen t_p t_a t_b t_rooted t_pointMany t_curves v9 r10 hr10) (cwV 1 hts gX6_isPoint_X6_right rfl rfl rfl (by decide +kernel) ⟨Nat.le_of_ble_eq_true rfl, Nat.le_of_ble_eq_true rfl⟩) ⟨fun a U g mk q => by obtain ⟨q0, qP, qK, qN⟩ := q; exact ⟨q0, qP, va_K.moved (u := U) (U := U.calling g mk a) (Vm.Alike.refl U.vm) qK, nw_same (u := U) (U := U.calling g mk a) rfl qN⟩, va_recv hKc hPc (ci := 5) (q0 := 0) rfl rfl, fun U hU hW => ⟨rfl, by rw [hU]; exact hPc, va_K.moved hW.alike hKc, nw_warm hW hN⟩⟩ rfl rfl hl.1 rfl (lv_room (Nat.le_of_ble_eq_true rfl)) dX6_isPoint_55 ⟨Nat.le_of_ble_eq_true rfl, Nat.le_of_ble_eq_true rfl⟩) (fun q9 eq9 => ?_)
          subst q9
          refine lv_icmp_ne (tgt := 65) hx hb dX6_isPoint_58 (by decide) (fun c11 => ?_) (fun c11 => ?_)
          · replace h := (if_neg c11).symm.trans h
            refine lv_iconst (v := 0) hx hb dX6_isPoint_65 (by decide) ?_
            have hv : 0 = rr := Option.some.inj h
            exact W.zret (v := 0) hx hb hr (by decide) (fun t ht hW => ⟨_, rfl, hv, ht⟩) (fun q hq => absurd hq List.not_mem_nil) dX6_isPoint_66
          · replace h := (if_pos c11).symm.trans h
            refine lv_iconst (v := 1) hx hb dX6_isPoint_61 (by decide) ?_
            refine lv_goto (tgt := 66) hx hb dX6_isPoint_62 (by decide) ?_
            have hv : 1 = rr := Option.some.inj h
            exact W.zret (v := 1) hx hb hr (by decide) (fun t ht hW => ⟨_, rfl, hv, ht⟩) (fun q hq => absurd hq List.not_mem_nil) dX6_isPoint_66
        · replace h := (if_neg c6).symm.trans h
          refine lv_iconst (v := 0) hx hb dX6_isPoint_35 (by decide) ?_
          have hv : 0 = rr := Option.some.inj h
          exact W.zret (v := 0) hx hb hr (by decide) (fun t ht hW => ⟨_, rfl, hv, ht⟩) (fun q hq => absurd hq List.not_mem_nil) dX6_isPoint_36
  · replace h := (if_pos c1).symm.trans h
    refine lv_iconst (v := 1) hx hb dX6_isPoint_5 (by decide) ?_
    have hv : 1 = rr := Option.some.inj h
    exact W.zret (v := 1) hx hb hr (by decide) (fun t ht hW => ⟨_, rfl, hv, ht⟩) (fun q hq => absurd hq List.not_mem_nil) dX6_isPoint_6
def mX6_negativeOf (N : Nat) (t_p : Int32) (a0 : Int32) : Option (Int32) := if a0 = (-1) then some a0 else mi_let (mi_rem a0 16384) (fun v2 => if v2 = 0 then some ((a0 - v2) + 0) else some ((a0 - v2) + (t_p - v2)))
abbrev rmX6_negativeOf : Room := { frames := 0, cells := 0, slots := 0, locals := 0 }
set_option maxHeartbeats 4000000 in
set_option maxRecDepth 100000 in
theorem ctX6_negativeOf (l : Launch) (N : Nat) (dC : Nat → ClassId) (dI : Nat → Nat → Nat) (h0 : Nat) (h0_inverses : Nat) (h0_roots : Nat) (h0_points : Nat) (h0_ahead : Nat) (h0_ps : Nat) (h0_as : Nat) (h0_bs : Nat) (h0_from : Nat) (h0_kernelPoint : Nat) (h0_kernelOrder : Nat) (h0_marked : Nat) (h0_seen : Nat) (t_p : Int32) (t_a : Int32) (t_b : Int32) (t_rooted : Int32) (t_pointMany : Int32) (t_curves : Int32) (a0 : Int32) (rr : Int32) (h : mX6_negativeOf N t_p a0 = some rr) : Met l yX6_negativeOf wsX6_negativeOf rmX6_negativeOf (va_Pc [.ref h0, .int a0] (fun U => va_P (dC, dI) vwCl [(h0, .inr (5, [.int t_p, .int t_a, .int t_b, .ref h0_inverses, .ref h0_roots, .int t_rooted, .ref h0_points, .int t_pointMany, .ref h0_ahead, .int t_curves, .ref h0_ps, .ref h0_as, .ref h0_bs, .ref h0_from, .ref h0_kernelPoint, .ref h0_kernelOrder, .ref h0_marked, .ref h0_seen]))] U.heap ∧ va_K (dC, dI) vwCl [] U ∧ nw_all U)) (vp_Si (fun r => r = rr)) 0 0 (fun _ => False) := by
  refine Met.ofW (cc := cX6_negativeOf) (maxL := 3) (ret := (some .int)) (by decide) rfl ?_
  intro p e s m args below meth c s₁ B hml hv
  obtain ⟨rfl, hP, hK, hN⟩ := hv
  have hx := B.exec
  have hb := B.bytes
  have hr := B.returns
  have hts := atoms_spec (ws := wsX6_negativeOf) B.pre
  have hown : s.vm.findClass RX6 = some m.cls := findClass_of_methodNamed B.named
  have hlocks := B.notSynchronized
  have hl := lv_entry ([.ref h0, .int a0]) (n := 3) (Nat.le_of_ble_eq_true rfl)
  rw [lg_entry_eq]
  generalize (lg_sl ([.ref h0, .int a0]) ++ List.replicate (3 - (lg_sl ([.ref h0, .int a0])).length) Slot.unset).toArray = ls at hl ⊢
  have hl : lv_has ls 3 [(0, .ref h0), (1, .int a0)] := hl
  dsimp only [mX6_negativeOf] at h
  refine lv_iload_n hx hb dX6_negativeOf_0 rfl (lv_at hl 1 rfl) ?_
  refine lv_iconst (v := (-1)) hx hb dX6_negativeOf_1 (by decide) ?_
  refine lv_icmp_ne (tgt := 7) hx hb dX6_negativeOf_2 (by decide) (fun c1 => ?_) (fun c1 => ?_)
  · replace h := (if_neg c1).symm.trans h
    refine lv_iload_n hx hb dX6_negativeOf_7 rfl (lv_at hl 1 rfl) ?_
    refine lv_sipush (v := 16384) hx hb dX6_negativeOf_8 (by decide) ?_
    refine lv_irem hx hb dX6_negativeOf_11 (by decide) ?_
    refine lv_topi (fun v2 ev2 => ?_)
    replace h := mi_use ev2 h
    refine lv_istore_n (lv' := [(2, .int v2), (0, .ref h0), (1, .int a0)]) hx hb dX6_negativeOf_12 rfl hl (by decide) rfl (fun ls hl => ?_)
    refine lv_iload_n hx hb dX6_negativeOf_13 rfl (lv_at hl 2 rfl) ?_
    refine lv_iload_n hx hb dX6_negativeOf_14 rfl (lv_at hl 0 rfl) ?_
    refine lv_isub hx hb dX6_negativeOf_15 ?_
    refine lv_iload_n hx hb dX6_negativeOf_16 rfl (lv_at hl 0 rfl) ?_
    refine lv_if_ne (tgt := 24) hx hb dX6_negativeOf_17 (by decide) (fun c3 => ?_) (fun c3 => ?_)
    · replace h := (if_neg c3).symm.trans h
      refine lv_aload_n hx hb dX6_negativeOf_24 rfl (lv_at hl 1 rfl) ?_
      refine va_get (D := (dC, dI)) (ci := 5) (v := .int t_p) (C := RX6) (T := TX6) (N := 18) hx hb hts (by decide +kernel) hown hK hP 0 rfl rfl 0 (by decide) (hts (.fieldLink RX6 47 "PointRingsModel" "p" "I") (by decide +kernel)) (fun _ h9 => h9) rfl dX6_negativeOf_25 ?_
      refine lv_iload_n hx hb dX6_negativeOf_28 rfl (lv_at hl 0 rfl) ?_
      refine lv_isub hx hb dX6_negativeOf_29 ?_
      refine lv_iadd hx hb dX6_negativeOf_30 ?_
      have hv : (a0 - v2) + (t_p - v2) = rr := Option.some.inj h
      exact W.iret (v := ((a0 - v2) + (t_p - v2))) hx hb hr (fun t ht hW => ⟨_, rfl, hv, ht⟩) (fun q hq => absurd hq List.not_mem_nil) dX6_negativeOf_31
    · replace h := (if_pos c3).symm.trans h
      refine lv_iconst (v := 0) hx hb dX6_negativeOf_20 (by decide) ?_
      refine lv_goto (tgt := 30) hx hb dX6_negativeOf_21 (by decide) ?_
      refine lv_iadd hx hb dX6_negativeOf_30 ?_
      have hv : (a0 - v2) + 0 = rr := Option.some.inj h
      exact W.iret (v := ((a0 - v2) + 0)) hx hb hr (fun t ht hW => ⟨_, rfl, hv, ht⟩) (fun q hq => absurd hq List.not_mem_nil) dX6_negativeOf_31
  · replace h := (if_pos c1).symm.trans h
    refine lv_iload_n hx hb dX6_negativeOf_5 rfl (lv_at hl 1 rfl) ?_
    have hv : a0 = rr := Option.some.inj h
    exact W.iret (v := a0) hx hb hr (fun t ht hW => ⟨_, rfl, hv, ht⟩) (fun q hq => absurd hq List.not_mem_nil) dX6_negativeOf_6
def mX6_sum (N : Nat) (t_p : Int32) (t_a : Int32) (t_inverses : Nat → Int32) (a0 : Int32) (a1 : Int32) : Option (Int32) := if a0 = (-1) then if a0 = (-1) then some a1 else some a0 else if a1 = (-1) then if a0 = (-1) then some a1 else some a0 else mi_let (a0 / 16384) (fun v4 => mi_let (mi_rem a0 16384) (fun v5 => mi_let (a1 / 16384) (fun v6 => mi_let (mi_rem a1 16384) (fun v7 => if v4 = v6 then if t_p = 0 then none else mi_let (mi_rem (v5 + v7) t_p) (fun v20 => if v20 = 0 then some (-1) else (mX6_mul N t_p v4 v4).bind (fun r22 => (mX6_mod N t_p ((3 * r22.toInt64) + t_a.toInt64)).bind (fun r23 => (mX6_mod N t_p (2 * v5.toInt64)).bind (fun r24 => if r24 < 0 ∨ 10008 ≤ r24.toNatClampNeg then none else mi_let (t_inverses r24.toNatClampNeg) (fun v26 => (mX6_mul N t_p r23 v26).bind (fun r27 => (mX6_mul N t_p r27 r27).bind (fun r28 => (mX6_mod N t_p ((r28.toInt64 - v4.toInt64) - v6.toInt64)).bind (fun r29 => (mX6_mod N t_p (v4.toInt64 - r29.toInt64)).bind (fun r30 => (mX6_mul N t_p r27 r30).bind (fun r31 => (mX6_mod N t_p (r31.toInt64 - v5.toInt64)).bind (fun r32 => some ((16384 * r29) + r32)))))))))))) else (mX6_mod N t_p (v7.toInt64 - v5.toInt64)).bind (fun r9 => (mX6_mod N t_p (v6.toInt64 - v4.toInt64)).bind (fun r10 => if r10 < 0 ∨ 10008 ≤ r10.toNatClampNeg then none else mi_let (t_inverses r10.toNatClampNeg) (fun v12 => (mX6_mul N t_p r9 v12).bind (fun r13 => (mX6_mul N t_p r13 r13).bind (fun r14 => (mX6_mod N t_p ((r14.toInt64 - v4.toInt64) - v6.toInt64)).bind (fun r15 => (mX6_mod N t_p (v4.toInt64 - r15.toInt64)).bind (fun r16 => (mX6_mul N t_p r13 r16).bind (fun r17 => (mX6_mod N t_p (r17.toInt64 - v5.toInt64)).bind (fun r18 => some ((16384 * r15) + r18))))))))))))))
abbrev rmX6_sum : Room := { frames := 1, cells := 0, slots := 0, locals := 23 }
set_option maxHeartbeats 4000000 in
set_option maxRecDepth 100000 in
theorem ctX6_sum (l : Launch) (N : Nat) (dC : Nat → ClassId) (dI : Nat → Nat → Nat) (h0 : Nat) (h0_inverses : Nat) (h0_roots : Nat) (h0_points : Nat) (h0_ahead : Nat) (h0_ps : Nat) (h0_as : Nat) (h0_bs : Nat) (h0_from : Nat) (h0_kernelPoint : Nat) (h0_kernelOrder : Nat) (h0_marked : Nat) (h0_seen : Nat) (k_t_inverses : ClassId) (t_p : Int32) (t_a : Int32) (t_b : Int32) (t_rooted : Int32) (t_pointMany : Int32) (t_curves : Int32) (t_inverses : Nat → Int32) (a0 : Int32) (a1 : Int32) (rr : Int32) (h : mX6_sum N t_p t_a t_inverses a0 a1 = some rr) : Met l yX6_sum wsX6_sum rmX6_sum (va_Pc [.ref h0, .int a0, .int a1] (fun U => va_P (dC, dI) vwCl [(h0, .inr (5, [.int t_p, .int t_a, .int t_b, .ref h0_inverses, .ref h0_roots, .int t_rooted, .ref h0_points, .int t_pointMany, .ref h0_ahead, .int t_curves, .ref h0_ps, .ref h0_as, .ref h0_bs, .ref h0_from, .ref h0_kernelPoint, .ref h0_kernelOrder, .ref h0_marked, .ref h0_seen])), (h0_inverses, .inl (k_t_inverses, 10008, .inl t_inverses))] U.heap ∧ va_K (dC, dI) vwCl [(k_t_inverses, .int)] U ∧ nw_all U)) (vp_Si (fun r => r = rr)) 0 0 (fun _ => False) := by
  refine Met.ofW (cc := cX6_sum) (maxL := 9) (ret := (some .int)) (by decide) rfl ?_
  intro p e s m args below meth c s₁ B hml hv
  obtain ⟨rfl, hP, hK, hN⟩ := hv
  have hx := B.exec
  have hb := B.bytes
  have hr := B.returns
  have hts := atoms_spec (ws := wsX6_sum) B.pre
  have hown : s.vm.findClass RX6 = some m.cls := findClass_of_methodNamed B.named
  have hlocks := B.notSynchronized
  have hl := lv_entry ([.ref h0, .int a0, .int a1]) (n := 9) (Nat.le_of_ble_eq_true rfl)
  rw [lg_entry_eq]
  generalize (lg_sl ([.ref h0, .int a0, .int a1]) ++ List.replicate (9 - (lg_sl ([.ref h0, .int a0, .int a1])).length) Slot.unset).toArray = ls at hl ⊢
  have hl : lv_has ls 9 [(0, .ref h0), (1, .int a0), (2, .int a1)] := hl
  dsimp only [mX6_sum] at h
  refine lv_iload_n hx hb dX6_sum_0 rfl (lv_at hl 1 rfl) ?_
  refine lv_iconst (v := (-1)) hx hb dX6_sum_1 (by decide) ?_
  refine lv_icmp_eq (tgt := 10) hx hb dX6_sum_2 (by decide) (fun c1 => ?_) (fun c1 => ?_)
  · replace h := (if_pos c1).symm.trans h
    refine lv_iload_n hx hb dX6_sum_10 rfl (lv_at hl 1 rfl) ?_
    refine lv_iconst (v := (-1)) hx hb dX6_sum_11 (by decide) ?_
    refine lv_icmp_ne (tgt := 19) hx hb dX6_sum_12 (by decide) (fun c2 => ?_) (fun c2 => ?_)
    · replace h := (if_neg c2).symm.trans h
      refine lv_iload_n hx hb dX6_sum_19 rfl (lv_at hl 1 rfl) ?_
      have hv : a0 = rr := Option.some.inj h
      exact W.iret (v := a0) hx hb hr (fun t ht hW => ⟨_, rfl, hv, ht⟩) (fun q hq => absurd hq List.not_mem_nil) dX6_sum_20
    · replace h := (if_pos c2).symm.trans h
      refine lv_iload_n hx hb dX6_sum_15 rfl (lv_at hl 2 rfl) ?_
      refine lv_goto (tgt := 20) hx hb dX6_sum_16 (by decide) ?_
      have hv : a1 = rr := Option.some.inj h
      exact W.iret (v := a1) hx hb hr (fun t ht hW => ⟨_, rfl, hv, ht⟩) (fun q hq => absurd hq List.not_mem_nil) dX6_sum_20
  · replace h := (if_neg c1).symm.trans h
    refine lv_iload_n hx hb dX6_sum_5 rfl (lv_at hl 2 rfl) ?_
    refine lv_iconst (v := (-1)) hx hb dX6_sum_6 (by decide) ?_
    refine lv_icmp_ne (tgt := 21) hx hb dX6_sum_7 (by decide) (fun c3 => ?_) (fun c3 => ?_)
    · replace h := (if_neg c3).symm.trans h
      refine lv_iload_n hx hb dX6_sum_21 rfl (lv_at hl 1 rfl) ?_
      refine lv_sipush (v := 16384) hx hb dX6_sum_22 (by decide) ?_
      refine lv_idiv hx hb dX6_sum_25 (by decide) ?_
      refine lv_topi (fun v4 ev4 => ?_)
      replace h := mi_use ev4 h
      refine lv_istore_n (lv' := [(3, .int v4), (0, .ref h0), (1, .int a0), (2, .int a1)]) hx hb dX6_sum_26 rfl hl (by decide) rfl (fun ls hl => ?_)
      refine lv_iload_n hx hb dX6_sum_27 rfl (lv_at hl 2 rfl) ?_
      refine lv_sipush (v := 16384) hx hb dX6_sum_28 (by decide) ?_
      refine lv_irem hx hb dX6_sum_31 (by decide) ?_
      refine lv_topi (fun v5 ev5 => ?_)
      replace h := mi_use ev5 h
      refine lv_istore (lv' := [(4, .int v5), (3, .int v4), (0, .ref h0), (1, .int a0), (2, .int a1)]) hx hb dX6_sum_32 hl (by decide) rfl (fun ls hl => ?_)
      refine lv_iload_n hx hb dX6_sum_34 rfl (lv_at hl 4 rfl) ?_
      refine lv_sipush (v := 16384) hx hb dX6_sum_35 (by decide) ?_
      refine lv_idiv hx hb dX6_sum_38 (by decide) ?_
      refine lv_topi (fun v6 ev6 => ?_)
      replace h := mi_use ev6 h
      refine lv_istore (lv' := [(5, .int v6), (4, .int v5), (3, .int v4), (0, .ref h0), (1, .int a0), (2, .int a1)]) hx hb dX6_sum_39 hl (by decide) rfl (fun ls hl => ?_)
      refine lv_iload_n hx hb dX6_sum_41 rfl (lv_at hl 5 rfl) ?_
      refine lv_sipush (v := 16384) hx hb dX6_sum_42 (by decide) ?_
      refine lv_irem hx hb dX6_sum_45 (by decide) ?_
      refine lv_topi (fun v7 ev7 => ?_)
      replace h := mi_use ev7 h
      refine lv_istore (lv' := [(6, .int v7), (5, .int v6), (4, .int v5), (3, .int v4), (0, .ref h0), (1, .int a0), (2, .int a1)]) hx hb dX6_sum_46 hl (by decide) rfl (fun ls hl => ?_)
      refine lv_iconst (v := 0) hx hb dX6_sum_48 (by decide) ?_
      refine lv_istore (lv' := [(7, .int 0), (6, .int v7), (5, .int v6), (4, .int v5), (3, .int v4), (0, .ref h0), (1, .int a0), (2, .int a1)]) hx hb dX6_sum_49 hl (by decide) rfl (fun ls hl => ?_)
      refine lv_iload_n hx hb dX6_sum_51 rfl (lv_at hl 4 rfl) ?_
      refine lv_iload hx hb dX6_sum_52 (lv_at hl 2 rfl) ?_
      refine lv_icmp_ne (tgt := 118) hx hb dX6_sum_54 (by decide) (fun c8 => ?_) (fun c8 => ?_)
      · replace h := (if_neg c8).symm.trans h
        refine lv_aload_n hx hb dX6_sum_118 rfl (lv_at hl 5 rfl) ?_
        refine lv_aload_n hx hb dX6_sum_119 rfl (lv_at hl 5 rfl) ?_
        refine lv_iload hx hb dX6_sum_120 (lv_at hl 1 rfl) ?_
        refine lv_i2l hx hb dX6_sum_122 rfl ?_
        refine lv_iload hx hb dX6_sum_123 (lv_at hl 3 rfl) ?_
        refine lv_i2l hx hb dX6_sum_125 rfl ?_
        refine lv_lsub hx hb dX6_sum_126 ?_
        obtain ⟨r9, hr9, h⟩ := Option.bind_eq_some_iff.mp h
        have hPc := hP.sub (ws' := [(h0, .inr (5, [.int t_p, .int t_a, .int t_b, .ref h0_inverses, .ref h0_roots, .int t_rooted, .ref h0_points, .int t_pointMany, .ref h0_ahead, .int t_curves, .ref h0_ps, .ref h0_as, .ref h0_bs, .ref h0_from, .ref h0_kernelPoint, .ref h0_kernelOrder, .ref h0_marked, .ref h0_seen]))]) [0] rfl
        have hKc := hK.sub (tys' := []) [] rfl
        refine vp_callSi (W.runV (As := [.long (v7.toInt64 - v5.toInt64)]) (rest := [.ref h0]) ⟨hx, hb, hml, hown, hts⟩ (ctX6_mod l N dC dI  h0 h0_inverses h0_roots h0_points h0_ahead h0_ps h0_as h0_bs h0_from h0_kernelPoint h0_kernelOrder h0_marked h0_seen t_p t_a t_b t_rooted t_pointMany t_curves (v7.toInt64 - v5.toInt64) r9 hr9) (cwV 1 hts gX6_sum_X6_mod rfl rfl rfl (by decide +kernel) ⟨Nat.le_of_ble_eq_true rfl, Nat.le_of_ble_eq_true rfl⟩) ⟨fun a U g mk q => by obtain ⟨q0, qP, qK, qN⟩ := q; exact ⟨q0, qP, va_K.moved (u := U) (U := U.calling g mk a) (Vm.Alike.refl U.vm) qK, nw_same (u := U) (U := U.calling g mk a) rfl qN⟩, va_recv hKc hPc (ci := 5) (q0 := 0) rfl rfl, fun U hU hW => ⟨rfl, by rw [hU]; exact hPc, va_K.moved hW.alike hKc, nw_warm hW hN⟩⟩ rfl rfl hl.1 rfl (lv_room (Nat.le_of_ble_eq_true rfl)) dX6_sum_127 ⟨Nat.le_of_ble_eq_true rfl, Nat.le_of_ble_eq_true rfl⟩) (fun q9 eq9 => ?_)
        subst q9
        refine lv_aload_n hx hb dX6_sum_130 rfl (lv_at hl 5 rfl) ?_
        refine va_get (D := (dC, dI)) (ci := 5) (v := .ref h0_inverses) (C := RX6) (T := TX6) (N := 18) hx hb hts (by decide +kernel) hown hK hP 0 rfl rfl 3 (by decide) (hts (.fieldLink RX6 7 "PointRingsModel" "inverses" "[I") (by decide +kernel)) (fun _ h9 => h9) rfl dX6_sum_131 ?_
        refine lv_aload_n hx hb dX6_sum_134 rfl (lv_at hl 5 rfl) ?_
        refine lv_iload hx hb dX6_sum_135 (lv_at hl 2 rfl) ?_
        refine lv_i2l hx hb dX6_sum_137 rfl ?_
        refine lv_iload_n hx hb dX6_sum_138 rfl (lv_at hl 4 rfl) ?_
        refine lv_i2l hx hb dX6_sum_139 rfl ?_
        refine lv_lsub hx hb dX6_sum_140 ?_
        obtain ⟨r10, hr10, h⟩ := Option.bind_eq_some_iff.mp h
        have hPc := hP.sub (ws' := [(h0, .inr (5, [.int t_p, .int t_a, .int t_b, .ref h0_inverses, .ref h0_roots, .int t_rooted, .ref h0_points, .int t_pointMany, .ref h0_ahead, .int t_curves, .ref h0_ps, .ref h0_as, .ref h0_bs, .ref h0_from, .ref h0_kernelPoint, .ref h0_kernelOrder, .ref h0_marked, .ref h0_seen]))]) [0] rfl
        have hKc := hK.sub (tys' := []) [] rfl
        refine vp_callSi (W.runV (As := [.long (v6.toInt64 - v4.toInt64)]) (rest := [.ref h0_inverses, .int r9, .ref h0]) ⟨hx, hb, hml, hown, hts⟩ (ctX6_mod l N dC dI  h0 h0_inverses h0_roots h0_points h0_ahead h0_ps h0_as h0_bs h0_from h0_kernelPoint h0_kernelOrder h0_marked h0_seen t_p t_a t_b t_rooted t_pointMany t_curves (v6.toInt64 - v4.toInt64) r10 hr10) (cwV 1 hts gX6_sum_X6_mod rfl rfl rfl (by decide +kernel) ⟨Nat.le_of_ble_eq_true rfl, Nat.le_of_ble_eq_true rfl⟩) ⟨fun a U g mk q => by obtain ⟨q0, qP, qK, qN⟩ := q; exact ⟨q0, qP, va_K.moved (u := U) (U := U.calling g mk a) (Vm.Alike.refl U.vm) qK, nw_same (u := U) (U := U.calling g mk a) rfl qN⟩, va_recv hKc hPc (ci := 5) (q0 := 0) rfl rfl, fun U hU hW => ⟨rfl, by rw [hU]; exact hPc, va_K.moved hW.alike hKc, nw_warm hW hN⟩⟩ rfl rfl hl.1 rfl (lv_room (Nat.le_of_ble_eq_true rfl)) dX6_sum_141 ⟨Nat.le_of_ble_eq_true rfl, Nat.le_of_ble_eq_true rfl⟩) (fun q9 eq9 => ?_)
        subst q9
        have hi11 : ¬ (r10 < 0 ∨ 10008 ≤ r10.toNatClampNeg) := fun hz => absurd ((if_pos hz).symm.trans h) (fun hh => nomatch hh)
        replace h := (if_neg hi11).symm.trans h
        refine va_iald hx hb hK hP 1 0 rfl rfl hi11 dX6_sum_144 ?_
        refine lv_topi (fun v12 ev12 => ?_)
        replace h := mi_use ev12 h
        obtain ⟨r13, hr13, h⟩ := Option.bind_eq_some_iff.mp h
        have hPc := hP.sub (ws' := [(h0, .inr (5, [.int t_p, .int t_a, .int t_b, .ref h0_inverses, .ref h0_roots, .int t_rooted, .ref h0_points, .int t_pointMany, .ref h0_ahead, .int t_curves, .ref h0_ps, .ref h0_as, .ref h0_bs, .ref h0_from, .ref h0_kernelPoint, .ref h0_kernelOrder, .ref h0_marked, .ref h0_seen]))]) [0] rfl
        have hKc := hK.sub (tys' := []) [] rfl
        refine vp_callSi (W.runV (As := [.int r9, .int v12]) (rest := []) ⟨hx, hb, hml, hown, hts⟩ (ctX6_mul l N dC dI  h0 h0_inverses h0_roots h0_points h0_ahead h0_ps h0_as h0_bs h0_from h0_kernelPoint h0_kernelOrder h0_marked h0_seen t_p t_a t_b t_rooted t_pointMany t_curves r9 v12 r13 hr13) (cwV 2 hts gX6_sum_X6_mul rfl rfl rfl (by decide +kernel) ⟨Nat.le_of_ble_eq_true rfl, Nat.le_of_ble_eq_true rfl⟩) ⟨fun a U g mk q => by obtain ⟨q0, qP, qK, qN⟩ := q; exact ⟨q0, qP, va_K.moved (u := U) (U := U.calling g mk a) (Vm.Alike.refl U.vm) qK, nw_same (u := U) (U := U.calling g mk a) rfl qN⟩, va_recv hKc hPc (ci := 5) (q0 := 0) rfl rfl, fun U hU hW => ⟨rfl, by rw [hU]; exact hPc, va_K.moved hW.alike hKc, nw_warm hW hN⟩⟩ rfl rfl hl.1 rfl (lv_room (Nat.le_of_ble_eq_true rfl)) dX6_sum_145 ⟨Nat.le_of_ble_eq_true rfl, Nat.le_of_ble_eq_true rfl⟩) (fun q9 eq9 => ?_)
        subst q9
        refine lv_istore (lv' := [(7, .int r13), (6, .int v7), (5, .int v6), (4, .int v5), (3, .int v4), (0, .ref h0), (1, .int a0), (2, .int a1)]) hx hb dX6_sum_148 hl (by decide) rfl (fun ls hl => ?_)
        refine lv_aload_n hx hb dX6_sum_150 rfl (lv_at hl 5 rfl) ?_
        refine lv_aload_n hx hb dX6_sum_151 rfl (lv_at hl 5 rfl) ?_
        refine lv_iload hx hb dX6_sum_152 (lv_at hl 0 rfl) ?_
        refine lv_iload hx hb dX6_sum_154 (lv_at hl 0 rfl) ?_
        obtain ⟨r14, hr14, h⟩ := Option.bind_eq_some_iff.mp h
        have hPc := hP.sub (ws' := [(h0, .inr (5, [.int t_p, .int t_a, .int t_b, .ref h0_inverses, .ref h0_roots, .int t_rooted, .ref h0_points, .int t_pointMany, .ref h0_ahead, .int t_curves, .ref h0_ps, .ref h0_as, .ref h0_bs, .ref h0_from, .ref h0_kernelPoint, .ref h0_kernelOrder, .ref h0_marked, .ref h0_seen]))]) [0] rfl
        have hKc := hK.sub (tys' := []) [] rfl
        refine vp_callSi (W.runV (As := [.int r13, .int r13]) (rest := [.ref h0]) ⟨hx, hb, hml, hown, hts⟩ (ctX6_mul l N dC dI  h0 h0_inverses h0_roots h0_points h0_ahead h0_ps h0_as h0_bs h0_from h0_kernelPoint h0_kernelOrder h0_marked h0_seen t_p t_a t_b t_rooted t_pointMany t_curves r13 r13 r14 hr14) (cwV 2 hts gX6_sum_X6_mul rfl rfl rfl (by decide +kernel) ⟨Nat.le_of_ble_eq_true rfl, Nat.le_of_ble_eq_true rfl⟩) ⟨fun a U g mk q => by obtain ⟨q0, qP, qK, qN⟩ := q; exact ⟨q0, qP, va_K.moved (u := U) (U := U.calling g mk a) (Vm.Alike.refl U.vm) qK, nw_same (u := U) (U := U.calling g mk a) rfl qN⟩, va_recv hKc hPc (ci := 5) (q0 := 0) rfl rfl, fun U hU hW => ⟨rfl, by rw [hU]; exact hPc, va_K.moved hW.alike hKc, nw_warm hW hN⟩⟩ rfl rfl hl.1 rfl (lv_room (Nat.le_of_ble_eq_true rfl)) dX6_sum_156 ⟨Nat.le_of_ble_eq_true rfl, Nat.le_of_ble_eq_true rfl⟩) (fun q9 eq9 => ?_)
        subst q9
        refine lv_i2l hx hb dX6_sum_159 rfl ?_
        refine lv_iload_n hx hb dX6_sum_160 rfl (lv_at hl 4 rfl) ?_
        refine lv_i2l hx hb dX6_sum_161 rfl ?_
        refine lv_lsub hx hb dX6_sum_162 ?_
        refine lv_iload hx hb dX6_sum_163 (lv_at hl 2 rfl) ?_
        refine lv_i2l hx hb dX6_sum_165 rfl ?_
        refine lv_lsub hx hb dX6_sum_166 ?_
        obtain ⟨r15, hr15, h⟩ := Option.bind_eq_some_iff.mp h
        have hPc := hP.sub (ws' := [(h0, .inr (5, [.int t_p, .int t_a, .int t_b, .ref h0_inverses, .ref h0_roots, .int t_rooted, .ref h0_points, .int t_pointMany, .ref h0_ahead, .int t_curves, .ref h0_ps, .ref h0_as, .ref h0_bs, .ref h0_from, .ref h0_kernelPoint, .ref h0_kernelOrder, .ref h0_marked, .ref h0_seen]))]) [0] rfl
        have hKc := hK.sub (tys' := []) [] rfl
        refine vp_callSi (W.runV (As := [.long ((r14.toInt64 - v4.toInt64) - v6.toInt64)]) (rest := []) ⟨hx, hb, hml, hown, hts⟩ (ctX6_mod l N dC dI  h0 h0_inverses h0_roots h0_points h0_ahead h0_ps h0_as h0_bs h0_from h0_kernelPoint h0_kernelOrder h0_marked h0_seen t_p t_a t_b t_rooted t_pointMany t_curves ((r14.toInt64 - v4.toInt64) - v6.toInt64) r15 hr15) (cwV 1 hts gX6_sum_X6_mod rfl rfl rfl (by decide +kernel) ⟨Nat.le_of_ble_eq_true rfl, Nat.le_of_ble_eq_true rfl⟩) ⟨fun a U g mk q => by obtain ⟨q0, qP, qK, qN⟩ := q; exact ⟨q0, qP, va_K.moved (u := U) (U := U.calling g mk a) (Vm.Alike.refl U.vm) qK, nw_same (u := U) (U := U.calling g mk a) rfl qN⟩, va_recv hKc hPc (ci := 5) (q0 := 0) rfl rfl, fun U hU hW => ⟨rfl, by rw [hU]; exact hPc, va_K.moved hW.alike hKc, nw_warm hW hN⟩⟩ rfl rfl hl.1 rfl (lv_room (Nat.le_of_ble_eq_true rfl)) dX6_sum_167 ⟨Nat.le_of_ble_eq_true rfl, Nat.le_of_ble_eq_true rfl⟩) (fun q9 eq9 => ?_)
        subst q9
        refine lv_istore (lv' := [(8, .int r15), (7, .int r13), (6, .int v7), (5, .int v6), (4, .int v5), (3, .int v4), (0, .ref h0), (1, .int a0), (2, .int a1)]) hx hb dX6_sum_170 hl (by decide) rfl (fun ls hl => ?_)
        refine lv_sipush (v := 16384) hx hb dX6_sum_172 (by decide) ?_
        refine lv_iload hx hb dX6_sum_175 (lv_at hl 0 rfl) ?_
        refine lv_imul hx hb dX6_sum_177 ?_
        refine lv_aload_n hx hb dX6_sum_178 rfl (lv_at hl 6 rfl) ?_
        refine lv_aload_n hx hb dX6_sum_179 rfl (lv_at hl 6 rfl) ?_
        refine lv_iload hx hb dX6_sum_180 (lv_at hl 1 rfl) ?_
        refine lv_aload_n hx hb dX6_sum_182 rfl (lv_at hl 6 rfl) ?_
        refine lv_iload_n hx hb dX6_sum_183 rfl (lv_at hl 5 rfl) ?_
        refine lv_i2l hx hb dX6_sum_184 rfl ?_
        refine lv_iload hx hb dX6_sum_185 (lv_at hl 0 rfl) ?_
        refine lv_i2l hx hb dX6_sum_187 rfl ?_
        refine lv_lsub hx hb dX6_sum_188 ?_
        obtain ⟨r16, hr16, h⟩ := Option.bind_eq_some_iff.mp h
        have hPc := hP.sub (ws' := [(h0, .inr (5, [.int t_p, .int t_a, .int t_b, .ref h0_inverses, .ref h0_roots, .int t_rooted, .ref h0_points, .int t_pointMany, .ref h0_ahead, .int t_curves, .ref h0_ps, .ref h0_as, .ref h0_bs, .ref h0_from, .ref h0_kernelPoint, .ref h0_kernelOrder, .ref h0_marked, .ref h0_seen]))]) [0] rfl
        have hKc := hK.sub (tys' := []) [] rfl
        refine vp_callSi (W.runV (As := [.long (v4.toInt64 - r15.toInt64)]) (rest := [.int r13, .ref h0, .ref h0, .int (16384 * r15)]) ⟨hx, hb, hml, hown, hts⟩ (ctX6_mod l N dC dI  h0 h0_inverses h0_roots h0_points h0_ahead h0_ps h0_as h0_bs h0_from h0_kernelPoint h0_kernelOrder h0_marked h0_seen t_p t_a t_b t_rooted t_pointMany t_curves (v4.toInt64 - r15.toInt64) r16 hr16) (cwV 1 hts gX6_sum_X6_mod rfl rfl rfl (by decide +kernel) ⟨Nat.le_of_ble_eq_true rfl, Nat.le_of_ble_eq_true rfl⟩) ⟨fun a U g mk q => by obtain ⟨q0, qP, qK, qN⟩ := q; exact ⟨q0, qP, va_K.moved (u := U) (U := U.calling g mk a) (Vm.Alike.refl U.vm) qK, nw_same (u := U) (U := U.calling g mk a) rfl qN⟩, va_recv hKc hPc (ci := 5) (q0 := 0) rfl rfl, fun U hU hW => ⟨rfl, by rw [hU]; exact hPc, va_K.moved hW.alike hKc, nw_warm hW hN⟩⟩ rfl rfl hl.1 rfl (lv_room (Nat.le_of_ble_eq_true rfl)) dX6_sum_189 ⟨Nat.le_of_ble_eq_true rfl, Nat.le_of_ble_eq_true rfl⟩) (fun q9 eq9 => ?_)
        subst q9
        obtain ⟨r17, hr17, h⟩ := Option.bind_eq_some_iff.mp h
        have hPc := hP.sub (ws' := [(h0, .inr (5, [.int t_p, .int t_a, .int t_b, .ref h0_inverses, .ref h0_roots, .int t_rooted, .ref h0_points, .int t_pointMany, .ref h0_ahead, .int t_curves, .ref h0_ps, .ref h0_as, .ref h0_bs, .ref h0_from, .ref h0_kernelPoint, .ref h0_kernelOrder, .ref h0_marked, .ref h0_seen]))]) [0] rfl
        have hKc := hK.sub (tys' := []) [] rfl
        refine vp_callSi (W.runV (As := [.int r13, .int r16]) (rest := [.ref h0, .int (16384 * r15)]) ⟨hx, hb, hml, hown, hts⟩ (ctX6_mul l N dC dI  h0 h0_inverses h0_roots h0_points h0_ahead h0_ps h0_as h0_bs h0_from h0_kernelPoint h0_kernelOrder h0_marked h0_seen t_p t_a t_b t_rooted t_pointMany t_curves r13 r16 r17 hr17) (cwV 2 hts gX6_sum_X6_mul rfl rfl rfl (by decide +kernel) ⟨Nat.le_of_ble_eq_true rfl, Nat.le_of_ble_eq_true rfl⟩) ⟨fun a U g mk q => by obtain ⟨q0, qP, qK, qN⟩ := q; exact ⟨q0, qP, va_K.moved (u := U) (U := U.calling g mk a) (Vm.Alike.refl U.vm) qK, nw_same (u := U) (U := U.calling g mk a) rfl qN⟩, va_recv hKc hPc (ci := 5) (q0 := 0) rfl rfl, fun U hU hW => ⟨rfl, by rw [hU]; exact hPc, va_K.moved hW.alike hKc, nw_warm hW hN⟩⟩ rfl rfl hl.1 rfl (lv_room (Nat.le_of_ble_eq_true rfl)) dX6_sum_192 ⟨Nat.le_of_ble_eq_true rfl, Nat.le_of_ble_eq_true rfl⟩) (fun q9 eq9 => ?_)
        subst q9
        refine lv_i2l hx hb dX6_sum_195 rfl ?_
        refine lv_iload hx hb dX6_sum_196 (lv_at hl 4 rfl) ?_
        refine lv_i2l hx hb dX6_sum_198 rfl ?_
        refine lv_lsub hx hb dX6_sum_199 ?_
        obtain ⟨r18, hr18, h⟩ := Option.bind_eq_some_iff.mp h
        have hPc := hP.sub (ws' := [(h0, .inr (5, [.int t_p, .int t_a, .int t_b, .ref h0_inverses, .ref h0_roots, .int t_rooted, .ref h0_points, .int t_pointMany, .ref h0_ahead, .int t_curves, .ref h0_ps, .ref h0_as, .ref h0_bs, .ref h0_from, .ref h0_kernelPoint, .ref h0_kernelOrder, .ref h0_marked, .ref h0_seen]))]) [0] rfl
        have hKc := hK.sub (tys' := []) [] rfl
        refine vp_callSi (W.runV (As := [.long (r17.toInt64 - v5.toInt64)]) (rest := [.int (16384 * r15)]) ⟨hx, hb, hml, hown, hts⟩ (ctX6_mod l N dC dI  h0 h0_inverses h0_roots h0_points h0_ahead h0_ps h0_as h0_bs h0_from h0_kernelPoint h0_kernelOrder h0_marked h0_seen t_p t_a t_b t_rooted t_pointMany t_curves (r17.toInt64 - v5.toInt64) r18 hr18) (cwV 1 hts gX6_sum_X6_mod rfl rfl rfl (by decide +kernel) ⟨Nat.le_of_ble_eq_true rfl, Nat.le_of_ble_eq_true rfl⟩) ⟨fun a U g mk q => by obtain ⟨q0, qP, qK, qN⟩ := q; exact ⟨q0, qP, va_K.moved (u := U) (U := U.calling g mk a) (Vm.Alike.refl U.vm) qK, nw_same (u := U) (U := U.calling g mk a) rfl qN⟩, va_recv hKc hPc (ci := 5) (q0 := 0) rfl rfl, fun U hU hW => ⟨rfl, by rw [hU]; exact hPc, va_K.moved hW.alike hKc, nw_warm hW hN⟩⟩ rfl rfl hl.1 rfl (lv_room (Nat.le_of_ble_eq_true rfl)) dX6_sum_200 ⟨Nat.le_of_ble_eq_true rfl, Nat.le_of_ble_eq_true rfl⟩) (fun q9 eq9 => ?_)
        subst q9
        refine lv_iadd hx hb dX6_sum_203 ?_
        have hv : (16384 * r15) + r18 = rr := Option.some.inj h
        exact W.iret (v := ((16384 * r15) + r18)) hx hb hr (fun t ht hW => ⟨_, rfl, hv, ht⟩) (fun q hq => absurd hq List.not_mem_nil) dX6_sum_204
      · replace h := (if_pos c8).symm.trans h
        refine lv_iload hx hb dX6_sum_57 (lv_at hl 3 rfl) ?_
        refine lv_iload hx hb dX6_sum_59 (lv_at hl 1 rfl) ?_
        refine lv_iadd hx hb dX6_sum_61 ?_
        refine lv_aload_n hx hb dX6_sum_62 rfl (lv_at hl 5 rfl) ?_
        refine va_get (D := (dC, dI)) (ci := 5) (v := .int t_p) (C := RX6) (T := TX6) (N := 18) hx hb hts (by decide +kernel) hown hK hP 0 rfl rfl 0 (by decide) (hts (.fieldLink RX6 47 "PointRingsModel" "p" "I") (by decide +kernel)) (fun _ h9 => h9) rfl dX6_sum_63 ?_
        have hn19 : ¬ t_p = 0 := fun hz => absurd ((if_pos hz).symm.trans h) (fun hh => nomatch hh)
        replace h := (if_neg hn19).symm.trans h
        refine lv_irem hx hb dX6_sum_66 hn19 ?_
        refine lv_topi (fun v20 ev20 => ?_)
        replace h := mi_use ev20 h
        refine lv_if_ne (tgt := 72) hx hb dX6_sum_67 (by decide) (fun c21 => ?_) (fun c21 => ?_)
        · replace h := (if_neg c21).symm.trans h
          refine lv_aload_n hx hb dX6_sum_72 rfl (lv_at hl 5 rfl) ?_
          refine lv_aload_n hx hb dX6_sum_73 rfl (lv_at hl 5 rfl) ?_
          refine lv_ldc2 (v := 3) hx hb hown (hts (.constantLong RX6 79 3) (by decide +kernel)) dX6_sum_74 ?_
          refine lv_aload_n hx hb dX6_sum_77 rfl (lv_at hl 5 rfl) ?_
          refine lv_iload_n hx hb dX6_sum_78 rfl (lv_at hl 4 rfl) ?_
          refine lv_iload_n hx hb dX6_sum_79 rfl (lv_at hl 4 rfl) ?_
          obtain ⟨r22, hr22, h⟩ := Option.bind_eq_some_iff.mp h
          have hPc := hP.sub (ws' := [(h0, .inr (5, [.int t_p, .int t_a, .int t_b, .ref h0_inverses, .ref h0_roots, .int t_rooted, .ref h0_points, .int t_pointMany, .ref h0_ahead, .int t_curves, .ref h0_ps, .ref h0_as, .ref h0_bs, .ref h0_from, .ref h0_kernelPoint, .ref h0_kernelOrder, .ref h0_marked, .ref h0_seen]))]) [0] rfl
          have hKc := hK.sub (tys' := []) [] rfl
          refine vp_callSi (W.runV (As := [.int v4, .int v4]) (rest := [.long 3, .ref h0, .ref h0]) ⟨hx, hb, hml, hown, hts⟩ (ctX6_mul l N dC dI  h0 h0_inverses h0_roots h0_points h0_ahead h0_ps h0_as h0_bs h0_from h0_kernelPoint h0_kernelOrder h0_marked h0_seen t_p t_a t_b t_rooted t_pointMany t_curves v4 v4 r22 hr22) (cwV 2 hts gX6_sum_X6_mul rfl rfl rfl (by decide +kernel) ⟨Nat.le_of_ble_eq_true rfl, Nat.le_of_ble_eq_true rfl⟩) ⟨fun a U g mk q => by obtain ⟨q0, qP, qK, qN⟩ := q; exact ⟨q0, qP, va_K.moved (u := U) (U := U.calling g mk a) (Vm.Alike.refl U.vm) qK, nw_same (u := U) (U := U.calling g mk a) rfl qN⟩, va_recv hKc hPc (ci := 5) (q0 := 0) rfl rfl, fun U hU hW => ⟨rfl, by rw [hU]; exact hPc, va_K.moved hW.alike hKc, nw_warm hW hN⟩⟩ rfl rfl hl.1 rfl (lv_room (Nat.le_of_ble_eq_true rfl)) dX6_sum_80 ⟨Nat.le_of_ble_eq_true rfl, Nat.le_of_ble_eq_true rfl⟩) (fun q9 eq9 => ?_)
          subst q9
          refine lv_i2l hx hb dX6_sum_83 rfl ?_
          refine lv_lmul hx hb dX6_sum_84 ?_
          refine lv_aload_n hx hb dX6_sum_85 rfl (lv_at hl 5 rfl) ?_
          refine va_get (D := (dC, dI)) (ci := 5) (v := .int t_a) (C := RX6) (T := TX6) (N := 18) hx hb hts (by decide +kernel) hown hK hP 0 rfl rfl 1 (by decide) (hts (.fieldLink RX6 61 "PointRingsModel" "a" "I") (by decide +kernel)) (fun _ h9 => h9) rfl dX6_sum_86 ?_
          refine lv_i2l hx hb dX6_sum_89 rfl ?_
          refine lv_ladd hx hb dX6_sum_90 ?_
          obtain ⟨r23, hr23, h⟩ := Option.bind_eq_some_iff.mp h
          have hPc := hP.sub (ws' := [(h0, .inr (5, [.int t_p, .int t_a, .int t_b, .ref h0_inverses, .ref h0_roots, .int t_rooted, .ref h0_points, .int t_pointMany, .ref h0_ahead, .int t_curves, .ref h0_ps, .ref h0_as, .ref h0_bs, .ref h0_from, .ref h0_kernelPoint, .ref h0_kernelOrder, .ref h0_marked, .ref h0_seen]))]) [0] rfl
          have hKc := hK.sub (tys' := []) [] rfl
          refine vp_callSi (W.runV (As := [.long ((3 * r22.toInt64) + t_a.toInt64)]) (rest := [.ref h0]) ⟨hx, hb, hml, hown, hts⟩ (ctX6_mod l N dC dI  h0 h0_inverses h0_roots h0_points h0_ahead h0_ps h0_as h0_bs h0_from h0_kernelPoint h0_kernelOrder h0_marked h0_seen t_p t_a t_b t_rooted t_pointMany t_curves ((3 * r22.toInt64) + t_a.toInt64) r23 hr23) (cwV 1 hts gX6_sum_X6_mod rfl rfl rfl (by decide +kernel) ⟨Nat.le_of_ble_eq_true rfl, Nat.le_of_ble_eq_true rfl⟩) ⟨fun a U g mk q => by obtain ⟨q0, qP, qK, qN⟩ := q; exact ⟨q0, qP, va_K.moved (u := U) (U := U.calling g mk a) (Vm.Alike.refl U.vm) qK, nw_same (u := U) (U := U.calling g mk a) rfl qN⟩, va_recv hKc hPc (ci := 5) (q0 := 0) rfl rfl, fun U hU hW => ⟨rfl, by rw [hU]; exact hPc, va_K.moved hW.alike hKc, nw_warm hW hN⟩⟩ rfl rfl hl.1 rfl (lv_room (Nat.le_of_ble_eq_true rfl)) dX6_sum_91 ⟨Nat.le_of_ble_eq_true rfl, Nat.le_of_ble_eq_true rfl⟩) (fun q9 eq9 => ?_)
          subst q9
          refine lv_aload_n hx hb dX6_sum_94 rfl (lv_at hl 5 rfl) ?_
          refine va_get (D := (dC, dI)) (ci := 5) (v := .ref h0_inverses) (C := RX6) (T := TX6) (N := 18) hx hb hts (by decide +kernel) hown hK hP 0 rfl rfl 3 (by decide) (hts (.fieldLink RX6 7 "PointRingsModel" "inverses" "[I") (by decide +kernel)) (fun _ h9 => h9) rfl dX6_sum_95 ?_
          refine lv_aload_n hx hb dX6_sum_98 rfl (lv_at hl 5 rfl) ?_
          refine lv_ldc2 (v := 2) hx hb hown (hts (.constantLong RX6 81 2) (by decide +kernel)) dX6_sum_99 ?_
          refine lv_iload hx hb dX6_sum_102 (lv_at hl 3 rfl) ?_
          refine lv_i2l hx hb dX6_sum_104 rfl ?_
          refine lv_lmul hx hb dX6_sum_105 ?_
          obtain ⟨r24, hr24, h⟩ := Option.bind_eq_some_iff.mp h
          have hPc := hP.sub (ws' := [(h0, .inr (5, [.int t_p, .int t_a, .int t_b, .ref h0_inverses, .ref h0_roots, .int t_rooted, .ref h0_points, .int t_pointMany, .ref h0_ahead, .int t_curves, .ref h0_ps, .ref h0_as, .ref h0_bs, .ref h0_from, .ref h0_kernelPoint, .ref h0_kernelOrder, .ref h0_marked, .ref h0_seen]))]) [0] rfl
          have hKc := hK.sub (tys' := []) [] rfl
          refine vp_callSi (W.runV (As := [.long (2 * v5.toInt64)]) (rest := [.ref h0_inverses, .int r23, .ref h0]) ⟨hx, hb, hml, hown, hts⟩ (ctX6_mod l N dC dI  h0 h0_inverses h0_roots h0_points h0_ahead h0_ps h0_as h0_bs h0_from h0_kernelPoint h0_kernelOrder h0_marked h0_seen t_p t_a t_b t_rooted t_pointMany t_curves (2 * v5.toInt64) r24 hr24) (cwV 1 hts gX6_sum_X6_mod rfl rfl rfl (by decide +kernel) ⟨Nat.le_of_ble_eq_true rfl, Nat.le_of_ble_eq_true rfl⟩) ⟨fun a U g mk q => by obtain ⟨q0, qP, qK, qN⟩ := q; exact ⟨q0, qP, va_K.moved (u := U) (U := U.calling g mk a) (Vm.Alike.refl U.vm) qK, nw_same (u := U) (U := U.calling g mk a) rfl qN⟩, va_recv hKc hPc (ci := 5) (q0 := 0) rfl rfl, fun U hU hW => ⟨rfl, by rw [hU]; exact hPc, va_K.moved hW.alike hKc, nw_warm hW hN⟩⟩ rfl rfl hl.1 rfl (lv_room (Nat.le_of_ble_eq_true rfl)) dX6_sum_106 ⟨Nat.le_of_ble_eq_true rfl, Nat.le_of_ble_eq_true rfl⟩) (fun q9 eq9 => ?_)
          subst q9
          have hi25 : ¬ (r24 < 0 ∨ 10008 ≤ r24.toNatClampNeg) := fun hz => absurd ((if_pos hz).symm.trans h) (fun hh => nomatch hh)
          replace h := (if_neg hi25).symm.trans h
          refine va_iald hx hb hK hP 1 0 rfl rfl hi25 dX6_sum_109 ?_
          refine lv_topi (fun v26 ev26 => ?_)
          replace h := mi_use ev26 h
          obtain ⟨r27, hr27, h⟩ := Option.bind_eq_some_iff.mp h
          have hPc := hP.sub (ws' := [(h0, .inr (5, [.int t_p, .int t_a, .int t_b, .ref h0_inverses, .ref h0_roots, .int t_rooted, .ref h0_points, .int t_pointMany, .ref h0_ahead, .int t_curves, .ref h0_ps, .ref h0_as, .ref h0_bs, .ref h0_from, .ref h0_kernelPoint, .ref h0_kernelOrder, .ref h0_marked, .ref h0_seen]))]) [0] rfl
          have hKc := hK.sub (tys' := []) [] rfl
          refine vp_callSi (W.runV (As := [.int r23, .int v26]) (rest := []) ⟨hx, hb, hml, hown, hts⟩ (ctX6_mul l N dC dI  h0 h0_inverses h0_roots h0_points h0_ahead h0_ps h0_as h0_bs h0_from h0_kernelPoint h0_kernelOrder h0_marked h0_seen t_p t_a t_b t_rooted t_pointMany t_curves r23 v26 r27 hr27) (cwV 2 hts gX6_sum_X6_mul rfl rfl rfl (by decide +kernel) ⟨Nat.le_of_ble_eq_true rfl, Nat.le_of_ble_eq_true rfl⟩) ⟨fun a U g mk q => by obtain ⟨q0, qP, qK, qN⟩ := q; exact ⟨q0, qP, va_K.moved (u := U) (U := U.calling g mk a) (Vm.Alike.refl U.vm) qK, nw_same (u := U) (U := U.calling g mk a) rfl qN⟩, va_recv hKc hPc (ci := 5) (q0 := 0) rfl rfl, fun U hU hW => ⟨rfl, by rw [hU]; exact hPc, va_K.moved hW.alike hKc, nw_warm hW hN⟩⟩ rfl rfl hl.1 rfl (lv_room (Nat.le_of_ble_eq_true rfl)) dX6_sum_110 ⟨Nat.le_of_ble_eq_true rfl, Nat.le_of_ble_eq_true rfl⟩) (fun q9 eq9 => ?_)
          subst q9
          refine lv_istore (lv' := [(7, .int r27), (6, .int v7), (5, .int v6), (4, .int v5), (3, .int v4), (0, .ref h0), (1, .int a0), (2, .int a1)]) hx hb dX6_sum_113 hl (by decide) rfl (fun ls hl => ?_)
          refine lv_goto (tgt := 150) hx hb dX6_sum_115 (by decide) ?_
          refine lv_aload_n hx hb dX6_sum_150 rfl (lv_at hl 5 rfl) ?_
          refine lv_aload_n hx hb dX6_sum_151 rfl (lv_at hl 5 rfl) ?_
          refine lv_iload hx hb dX6_sum_152 (lv_at hl 0 rfl) ?_
          refine lv_iload hx hb dX6_sum_154 (lv_at hl 0 rfl) ?_
          obtain ⟨r28, hr28, h⟩ := Option.bind_eq_some_iff.mp h
          have hPc := hP.sub (ws' := [(h0, .inr (5, [.int t_p, .int t_a, .int t_b, .ref h0_inverses, .ref h0_roots, .int t_rooted, .ref h0_points, .int t_pointMany, .ref h0_ahead, .int t_curves, .ref h0_ps, .ref h0_as, .ref h0_bs, .ref h0_from, .ref h0_kernelPoint, .ref h0_kernelOrder, .ref h0_marked, .ref h0_seen]))]) [0] rfl
          have hKc := hK.sub (tys' := []) [] rfl
          refine vp_callSi (W.runV (As := [.int r27, .int r27]) (rest := [.ref h0]) ⟨hx, hb, hml, hown, hts⟩ (ctX6_mul l N dC dI  h0 h0_inverses h0_roots h0_points h0_ahead h0_ps h0_as h0_bs h0_from h0_kernelPoint h0_kernelOrder h0_marked h0_seen t_p t_a t_b t_rooted t_pointMany t_curves r27 r27 r28 hr28) (cwV 2 hts gX6_sum_X6_mul rfl rfl rfl (by decide +kernel) ⟨Nat.le_of_ble_eq_true rfl, Nat.le_of_ble_eq_true rfl⟩) ⟨fun a U g mk q => by obtain ⟨q0, qP, qK, qN⟩ := q; exact ⟨q0, qP, va_K.moved (u := U) (U := U.calling g mk a) (Vm.Alike.refl U.vm) qK, nw_same (u := U) (U := U.calling g mk a) rfl qN⟩, va_recv hKc hPc (ci := 5) (q0 := 0) rfl rfl, fun U hU hW => ⟨rfl, by rw [hU]; exact hPc, va_K.moved hW.alike hKc, nw_warm hW hN⟩⟩ rfl rfl hl.1 rfl (lv_room (Nat.le_of_ble_eq_true rfl)) dX6_sum_156 ⟨Nat.le_of_ble_eq_true rfl, Nat.le_of_ble_eq_true rfl⟩) (fun q9 eq9 => ?_)
          subst q9
          refine lv_i2l hx hb dX6_sum_159 rfl ?_
          refine lv_iload_n hx hb dX6_sum_160 rfl (lv_at hl 4 rfl) ?_
          refine lv_i2l hx hb dX6_sum_161 rfl ?_
          refine lv_lsub hx hb dX6_sum_162 ?_
          refine lv_iload hx hb dX6_sum_163 (lv_at hl 2 rfl) ?_
          refine lv_i2l hx hb dX6_sum_165 rfl ?_
          refine lv_lsub hx hb dX6_sum_166 ?_
          obtain ⟨r29, hr29, h⟩ := Option.bind_eq_some_iff.mp h
          have hPc := hP.sub (ws' := [(h0, .inr (5, [.int t_p, .int t_a, .int t_b, .ref h0_inverses, .ref h0_roots, .int t_rooted, .ref h0_points, .int t_pointMany, .ref h0_ahead, .int t_curves, .ref h0_ps, .ref h0_as, .ref h0_bs, .ref h0_from, .ref h0_kernelPoint, .ref h0_kernelOrder, .ref h0_marked, .ref h0_seen]))]) [0] rfl
          have hKc := hK.sub (tys' := []) [] rfl
          refine vp_callSi (W.runV (As := [.long ((r28.toInt64 - v4.toInt64) - v6.toInt64)]) (rest := []) ⟨hx, hb, hml, hown, hts⟩ (ctX6_mod l N dC dI  h0 h0_inverses h0_roots h0_points h0_ahead h0_ps h0_as h0_bs h0_from h0_kernelPoint h0_kernelOrder h0_marked h0_seen t_p t_a t_b t_rooted t_pointMany t_curves ((r28.toInt64 - v4.toInt64) - v6.toInt64) r29 hr29) (cwV 1 hts gX6_sum_X6_mod rfl rfl rfl (by decide +kernel) ⟨Nat.le_of_ble_eq_true rfl, Nat.le_of_ble_eq_true rfl⟩) ⟨fun a U g mk q => by obtain ⟨q0, qP, qK, qN⟩ := q; exact ⟨q0, qP, va_K.moved (u := U) (U := U.calling g mk a) (Vm.Alike.refl U.vm) qK, nw_same (u := U) (U := U.calling g mk a) rfl qN⟩, va_recv hKc hPc (ci := 5) (q0 := 0) rfl rfl, fun U hU hW => ⟨rfl, by rw [hU]; exact hPc, va_K.moved hW.alike hKc, nw_warm hW hN⟩⟩ rfl rfl hl.1 rfl (lv_room (Nat.le_of_ble_eq_true rfl)) dX6_sum_167 ⟨Nat.le_of_ble_eq_true rfl, Nat.le_of_ble_eq_true rfl⟩) (fun q9 eq9 => ?_)
          subst q9
          refine lv_istore (lv' := [(8, .int r29), (7, .int r27), (6, .int v7), (5, .int v6), (4, .int v5), (3, .int v4), (0, .ref h0), (1, .int a0), (2, .int a1)]) hx hb dX6_sum_170 hl (by decide) rfl (fun ls hl => ?_)
          refine lv_sipush (v := 16384) hx hb dX6_sum_172 (by decide) ?_
          refine lv_iload hx hb dX6_sum_175 (lv_at hl 0 rfl) ?_
          refine lv_imul hx hb dX6_sum_177 ?_
          refine lv_aload_n hx hb dX6_sum_178 rfl (lv_at hl 6 rfl) ?_
          refine lv_aload_n hx hb dX6_sum_179 rfl (lv_at hl 6 rfl) ?_
          refine lv_iload hx hb dX6_sum_180 (lv_at hl 1 rfl) ?_
          refine lv_aload_n hx hb dX6_sum_182 rfl (lv_at hl 6 rfl) ?_
          refine lv_iload_n hx hb dX6_sum_183 rfl (lv_at hl 5 rfl) ?_
          refine lv_i2l hx hb dX6_sum_184 rfl ?_
          refine lv_iload hx hb dX6_sum_185 (lv_at hl 0 rfl) ?_
          refine lv_i2l hx hb dX6_sum_187 rfl ?_
          refine lv_lsub hx hb dX6_sum_188 ?_
          obtain ⟨r30, hr30, h⟩ := Option.bind_eq_some_iff.mp h
          have hPc := hP.sub (ws' := [(h0, .inr (5, [.int t_p, .int t_a, .int t_b, .ref h0_inverses, .ref h0_roots, .int t_rooted, .ref h0_points, .int t_pointMany, .ref h0_ahead, .int t_curves, .ref h0_ps, .ref h0_as, .ref h0_bs, .ref h0_from, .ref h0_kernelPoint, .ref h0_kernelOrder, .ref h0_marked, .ref h0_seen]))]) [0] rfl
          have hKc := hK.sub (tys' := []) [] rfl
          refine vp_callSi (W.runV (As := [.long (v4.toInt64 - r29.toInt64)]) (rest := [.int r27, .ref h0, .ref h0, .int (16384 * r29)]) ⟨hx, hb, hml, hown, hts⟩ (ctX6_mod l N dC dI  h0 h0_inverses h0_roots h0_points h0_ahead h0_ps h0_as h0_bs h0_from h0_kernelPoint h0_kernelOrder h0_marked h0_seen t_p t_a t_b t_rooted t_pointMany t_curves (v4.toInt64 - r29.toInt64) r30 hr30) (cwV 1 hts gX6_sum_X6_mod rfl rfl rfl (by decide +kernel) ⟨Nat.le_of_ble_eq_true rfl, Nat.le_of_ble_eq_true rfl⟩) ⟨fun a U g mk q => by obtain ⟨q0, qP, qK, qN⟩ := q; exact ⟨q0, qP, va_K.moved (u := U) (U := U.calling g mk a) (Vm.Alike.refl U.vm) qK, nw_same (u := U) (U := U.calling g mk a) rfl qN⟩, va_recv hKc hPc (ci := 5) (q0 := 0) rfl rfl, fun U hU hW => ⟨rfl, by rw [hU]; exact hPc, va_K.moved hW.alike hKc, nw_warm hW hN⟩⟩ rfl rfl hl.1 rfl (lv_room (Nat.le_of_ble_eq_true rfl)) dX6_sum_189 ⟨Nat.le_of_ble_eq_true rfl, Nat.le_of_ble_eq_true rfl⟩) (fun q9 eq9 => ?_)
          subst q9
          obtain ⟨r31, hr31, h⟩ := Option.bind_eq_some_iff.mp h
          have hPc := hP.sub (ws' := [(h0, .inr (5, [.int t_p, .int t_a, .int t_b, .ref h0_inverses, .ref h0_roots, .int t_rooted, .ref h0_points, .int t_pointMany, .ref h0_ahead, .int t_curves, .ref h0_ps, .ref h0_as, .ref h0_bs, .ref h0_from, .ref h0_kernelPoint, .ref h0_kernelOrder, .ref h0_marked, .ref h0_seen]))]) [0] rfl
          have hKc := hK.sub (tys' := []) [] rfl
          refine vp_callSi (W.runV (As := [.int r27, .int r30]) (rest := [.ref h0, .int (16384 * r29)]) ⟨hx, hb, hml, hown, hts⟩ (ctX6_mul l N dC dI  h0 h0_inverses h0_roots h0_points h0_ahead h0_ps h0_as h0_bs h0_from h0_kernelPoint h0_kernelOrder h0_marked h0_seen t_p t_a t_b t_rooted t_pointMany t_curves r27 r30 r31 hr31) (cwV 2 hts gX6_sum_X6_mul rfl rfl rfl (by decide +kernel) ⟨Nat.le_of_ble_eq_true rfl, Nat.le_of_ble_eq_true rfl⟩) ⟨fun a U g mk q => by obtain ⟨q0, qP, qK, qN⟩ := q; exact ⟨q0, qP, va_K.moved (u := U) (U := U.calling g mk a) (Vm.Alike.refl U.vm) qK, nw_same (u := U) (U := U.calling g mk a) rfl qN⟩, va_recv hKc hPc (ci := 5) (q0 := 0) rfl rfl, fun U hU hW => ⟨rfl, by rw [hU]; exact hPc, va_K.moved hW.alike hKc, nw_warm hW hN⟩⟩ rfl rfl hl.1 rfl (lv_room (Nat.le_of_ble_eq_true rfl)) dX6_sum_192 ⟨Nat.le_of_ble_eq_true rfl, Nat.le_of_ble_eq_true rfl⟩) (fun q9 eq9 => ?_)
          subst q9
          refine lv_i2l hx hb dX6_sum_195 rfl ?_
          refine lv_iload hx hb dX6_sum_196 (lv_at hl 4 rfl) ?_
          refine lv_i2l hx hb dX6_sum_198 rfl ?_
          refine lv_lsub hx hb dX6_sum_199 ?_
          obtain ⟨r32, hr32, h⟩ := Option.bind_eq_some_iff.mp h
          have hPc := hP.sub (ws' := [(h0, .inr (5, [.int t_p, .int t_a, .int t_b, .ref h0_inverses, .ref h0_roots, .int t_rooted, .ref h0_points, .int t_pointMany, .ref h0_ahead, .int t_curves, .ref h0_ps, .ref h0_as, .ref h0_bs, .ref h0_from, .ref h0_kernelPoint, .ref h0_kernelOrder, .ref h0_marked, .ref h0_seen]))]) [0] rfl
          have hKc := hK.sub (tys' := []) [] rfl
          refine vp_callSi (W.runV (As := [.long (r31.toInt64 - v5.toInt64)]) (rest := [.int (16384 * r29)]) ⟨hx, hb, hml, hown, hts⟩ (ctX6_mod l N dC dI  h0 h0_inverses h0_roots h0_points h0_ahead h0_ps h0_as h0_bs h0_from h0_kernelPoint h0_kernelOrder h0_marked h0_seen t_p t_a t_b t_rooted t_pointMany t_curves (r31.toInt64 - v5.toInt64) r32 hr32) (cwV 1 hts gX6_sum_X6_mod rfl rfl rfl (by decide +kernel) ⟨Nat.le_of_ble_eq_true rfl, Nat.le_of_ble_eq_true rfl⟩) ⟨fun a U g mk q => by obtain ⟨q0, qP, qK, qN⟩ := q; exact ⟨q0, qP, va_K.moved (u := U) (U := U.calling g mk a) (Vm.Alike.refl U.vm) qK, nw_same (u := U) (U := U.calling g mk a) rfl qN⟩, va_recv hKc hPc (ci := 5) (q0 := 0) rfl rfl, fun U hU hW => ⟨rfl, by rw [hU]; exact hPc, va_K.moved hW.alike hKc, nw_warm hW hN⟩⟩ rfl rfl hl.1 rfl (lv_room (Nat.le_of_ble_eq_true rfl)) dX6_sum_200 ⟨Nat.le_of_ble_eq_true rfl, Nat.le_of_ble_eq_true rfl⟩) (fun q9 eq9 => ?_)
          subst q9
          refine lv_iadd hx hb dX6_sum_203 ?_
          have hv : (16384 * r29) + r32 = rr := Option.some.inj h
          exact W.iret (v := ((16384 * r29) + r32)) hx hb hr (fun t ht hW => ⟨_, rfl, hv, ht⟩) (fun q hq => absurd hq List.not_mem_nil) dX6_sum_204
        · replace h := (if_pos c21).symm.trans h
          refine lv_iconst (v := (-1)) hx hb dX6_sum_70 (by decide) ?_
          have hv : (-1) = rr := Option.some.inj h
          exact W.iret (v := (-1)) hx hb hr (fun t ht hW => ⟨_, rfl, hv, ht⟩) (fun q hq => absurd hq List.not_mem_nil) dX6_sum_71
    · replace h := (if_pos c3).symm.trans h
      refine lv_iload_n hx hb dX6_sum_10 rfl (lv_at hl 1 rfl) ?_
      refine lv_iconst (v := (-1)) hx hb dX6_sum_11 (by decide) ?_
      refine lv_icmp_ne (tgt := 19) hx hb dX6_sum_12 (by decide) (fun c33 => ?_) (fun c33 => ?_)
      · replace h := (if_neg c33).symm.trans h
        refine lv_iload_n hx hb dX6_sum_19 rfl (lv_at hl 1 rfl) ?_
        have hv : a0 = rr := Option.some.inj h
        exact W.iret (v := a0) hx hb hr (fun t ht hW => ⟨_, rfl, hv, ht⟩) (fun q hq => absurd hq List.not_mem_nil) dX6_sum_20
      · replace h := (if_pos c33).symm.trans h
        refine lv_iload_n hx hb dX6_sum_15 rfl (lv_at hl 2 rfl) ?_
        refine lv_goto (tgt := 20) hx hb dX6_sum_16 (by decide) ?_
        have hv : a1 = rr := Option.some.inj h
        exact W.iret (v := a1) hx hb hr (fun t ht hW => ⟨_, rfl, hv, ht⟩) (fun q hq => absurd hq List.not_mem_nil) dX6_sum_20
def mX6_multiple_b23 (N : Nat) (t_p : Int32) (t_a : Int32) (t_inverses : Nat → Int32) (st : Int32 × Int32 × Int64) : Option ((Int32 × Int32 × Int64) ⊕ (Int32 × Int32 × Int64)) :=
  match st with
  | (x3, x4, x5) => mi_let (lg_cmp x5 0) (fun v9 => if v9 = 0 then some (.inr (x3, x4, x5)) else mi_let (mi_lrem x5 2) (fun v11 => mi_let (lg_cmp v11 0) (fun v12 => if v12 = 0 then (mX6_sum N t_p t_a t_inverses x4 x4).bind (fun r14 => mi_let (x5 / 2) (fun v15 => some (.inl (x3, r14, v15)))) else (mX6_sum N t_p t_a t_inverses x3 x4).bind (fun r16 => (mX6_sum N t_p t_a t_inverses x4 x4).bind (fun r17 => mi_let (x5 / 2) (fun v18 => some (.inl (r16, r17, v18))))))))
def mX6_multiple (N : Nat) (t_p : Int32) (t_a : Int32) (t_inverses : Nat → Int32) (a0 : Int32) (a1 : Int64) : Option (Int32) := mi_let (lg_cmp a1 0) (fun v1 => if 0 ≤ v1 then (mi_run (mX6_multiple_b23 N t_p t_a t_inverses) N ((-1), a0, a1)).bind (fun o19 => match o19 with | (y6, y7, y8) => some y6) else (mX6_negativeOf N t_p a0).bind (fun r20 => (mi_run (mX6_multiple_b23 N t_p t_a t_inverses) N ((-1), r20, a1)).bind (fun o37 => match o37 with | (y24, y25, y26) => some y24)))
abbrev rmX6_multiple : Room := { frames := 2, cells := 0, slots := 0, locals := 51 }
set_option maxHeartbeats 4000000 in
set_option maxRecDepth 100000 in
theorem ctX6_multiple (l : Launch) (N : Nat) (dC : Nat → ClassId) (dI : Nat → Nat → Nat) (h0 : Nat) (h0_inverses : Nat) (h0_roots : Nat) (h0_points : Nat) (h0_ahead : Nat) (h0_ps : Nat) (h0_as : Nat) (h0_bs : Nat) (h0_from : Nat) (h0_kernelPoint : Nat) (h0_kernelOrder : Nat) (h0_marked : Nat) (h0_seen : Nat) (k_t_inverses : ClassId) (t_p : Int32) (t_a : Int32) (t_b : Int32) (t_rooted : Int32) (t_pointMany : Int32) (t_curves : Int32) (t_inverses : Nat → Int32) (a0 : Int32) (a1 : Int64) (rr : Int32) (h : mX6_multiple N t_p t_a t_inverses a0 a1 = some rr) : Met l yX6_multiple wsX6_multiple rmX6_multiple (va_Pc [.ref h0, .int a0, .long a1] (fun U => va_P (dC, dI) vwCl [(h0, .inr (5, [.int t_p, .int t_a, .int t_b, .ref h0_inverses, .ref h0_roots, .int t_rooted, .ref h0_points, .int t_pointMany, .ref h0_ahead, .int t_curves, .ref h0_ps, .ref h0_as, .ref h0_bs, .ref h0_from, .ref h0_kernelPoint, .ref h0_kernelOrder, .ref h0_marked, .ref h0_seen])), (h0_inverses, .inl (k_t_inverses, 10008, .inl t_inverses))] U.heap ∧ va_K (dC, dI) vwCl [(k_t_inverses, .int)] U ∧ nw_all U)) (vp_Si (fun r => r = rr)) 0 0 (fun _ => False) := by
  refine Met.ofW (cc := cX6_multiple) (maxL := 8) (ret := (some .int)) (by decide) rfl ?_
  intro p e s m args below meth c s₁ B hml hv
  obtain ⟨rfl, hP, hK, hN⟩ := hv
  have hx := B.exec
  have hb := B.bytes
  have hr := B.returns
  have hts := atoms_spec (ws := wsX6_multiple) B.pre
  have hown : s.vm.findClass RX6 = some m.cls := findClass_of_methodNamed B.named
  have hlocks := B.notSynchronized
  have hl := lv_entry ([.ref h0, .int a0, .long a1]) (n := 8) (Nat.le_of_ble_eq_true rfl)
  rw [lg_entry_eq]
  generalize (lg_sl ([.ref h0, .int a0, .long a1]) ++ List.replicate (8 - (lg_sl ([.ref h0, .int a0, .long a1])).length) Slot.unset).toArray = ls at hl ⊢
  have hl : lv_has ls 8 [(0, .ref h0), (1, .int a0), (2, .long a1)] := hl
  dsimp only [mX6_multiple] at h
  refine lv_iconst (v := (-1)) hx hb dX6_multiple_0 (by decide) ?_
  refine lv_istore (lv' := [(4, .int (-1)), (0, .ref h0), (1, .int a0), (2, .long a1)]) hx hb dX6_multiple_1 hl (by decide) rfl (fun ls hl => ?_)
  refine lv_lload_n hx hb dX6_multiple_3 rfl (lv_at hl 3 rfl) ?_
  refine lv_lconst (v := 0) hx hb dX6_multiple_4 (by decide) ?_
  refine W.lcmp hx hb dX6_multiple_5 ?_
  refine lv_topi (fun v1 ev1 => ?_)
  replace h := mi_use ev1 h
  refine lv_if_ge (tgt := 17) hx hb dX6_multiple_6 (by decide) (fun c2 => ?_) (fun c2 => ?_)
  · replace h := (if_pos c2).symm.trans h
    refine lv_iload_n hx hb dX6_multiple_17 rfl (lv_at hl 2 rfl) ?_
    refine lv_istore (lv' := [(5, .int a0), (4, .int (-1)), (0, .ref h0), (1, .int a0), (2, .long a1)]) hx hb dX6_multiple_18 hl (by decide) rfl (fun ls hl => ?_)
    refine lv_lload_n hx hb dX6_multiple_20 rfl (lv_at hl 4 rfl) ?_
    refine lv_lstore (lv' := [(6, .long a1), (5, .int a0), (4, .int (-1)), (0, .ref h0), (1, .int a0), (2, .long a1)]) hx hb dX6_multiple_21 hl (by decide) rfl (fun ls hl => ?_)
    have L23 : ∀ (n : Nat) (x3 : Int32) (x4 : Int32) (x5 : Int64) (o : Int32 × Int32 × Int64), mi_run (mX6_multiple_b23 N t_p t_a t_inverses) n (x3, x4, x5) = some o → (∀ (y6 : Int32) (y7 : Int32) (y8 : Int64), o = (y6, y7, y8) → ∀ ls, lv_has ls 8 [(4, .int y6), (5, .int y7), (6, .long y8), (0, .ref h0), (1, .int a0), (2, .long a1)] → W p l e (headSpec wsX6_multiple rmX6_multiple).room s m (([.ref h0, .int a0, .long a1] : List Value).toArray) below meth c s.heap [] 0 0 (MQ below (vp_Si (fun r => r = rr)) (([.ref h0, .int a0, .long a1] : List Value).toArray) s 0 0 (fun _ => False)) (F0 m 77 ls [])) → ∀ ls, lv_has ls 8 [(4, .int x3), (5, .int x4), (6, .long x5), (0, .ref h0), (1, .int a0), (2, .long a1)] → W p l e (headSpec wsX6_multiple rmX6_multiple).room s m (([.ref h0, .int a0, .long a1] : List Value).toArray) below meth c s.heap [] 0 0 (MQ below (vp_Si (fun r => r = rr)) (([.ref h0, .int a0, .long a1] : List Value).toArray) s 0 0 (fun _ => False)) (F0 m 23 ls []) := by
      intro n
      induction n with
      | zero => intro x3 x4 x5 o h; exact absurd h (mi_run_0 _ _ _)
      | succ n ih =>
        intro x3 x4 x5 o h hkE ls hl
        obtain ⟨w, h, hA, hB⟩ := mi_run_s h
        dsimp only [mX6_multiple_b23] at h
        refine lv_lload hx hb dX6_multiple_23 (lv_at hl 2 rfl) ?_
        refine lv_lconst (v := 0) hx hb dX6_multiple_25 (by decide) ?_
        refine W.lcmp hx hb dX6_multiple_26 ?_
        refine lv_topi (fun v9 ev9 => ?_)
        replace h := mi_use ev9 h
        refine lv_if_eq (tgt := 77) hx hb dX6_multiple_27 (by decide) (fun c10 => ?_) (fun c10 => ?_)
        · replace h := (if_pos c10).symm.trans h
          exact hkE _ _ _ (hB _ (Option.some.inj h).symm) ls (lv_sub hl [0, 1, 2, 3, 4, 5] rfl)
        · replace h := (if_neg c10).symm.trans h
          refine lv_lload hx hb dX6_multiple_30 (lv_at hl 2 rfl) ?_
          refine lv_ldc2 (v := 2) hx hb hown (hts (.constantLong RX6 81 2) (by decide +kernel)) dX6_multiple_32 ?_
          refine lv_lrem hx hb dX6_multiple_35 (by decide) ?_
          refine lv_topl (fun v11 ev11 => ?_)
          replace h := mi_use ev11 h
          refine lv_lconst (v := 0) hx hb dX6_multiple_36 (by decide) ?_
          refine W.lcmp hx hb dX6_multiple_37 ?_
          refine lv_topi (fun v12 ev12 => ?_)
          replace h := mi_use ev12 h
          refine lv_if_eq (tgt := 52) hx hb dX6_multiple_38 (by decide) (fun c13 => ?_) (fun c13 => ?_)
          · replace h := (if_pos c13).symm.trans h
            refine lv_iload hx hb dX6_multiple_52 (lv_at hl 0 rfl) ?_
            refine lv_istore (lv' := [(4, .int x3), (5, .int x4), (6, .long x5), (0, .ref h0), (1, .int a0), (2, .long a1)]) hx hb dX6_multiple_54 hl (by decide) rfl (fun ls hl => ?_)
            refine lv_aload_n hx hb dX6_multiple_56 rfl (lv_at hl 3 rfl) ?_
            refine lv_iload hx hb dX6_multiple_57 (lv_at hl 1 rfl) ?_
            refine lv_iload hx hb dX6_multiple_59 (lv_at hl 1 rfl) ?_
            obtain ⟨r14, hr14, h⟩ := Option.bind_eq_some_iff.mp h
            have hPc := hP.sub (ws' := [(h0, .inr (5, [.int t_p, .int t_a, .int t_b, .ref h0_inverses, .ref h0_roots, .int t_rooted, .ref h0_points, .int t_pointMany, .ref h0_ahead, .int t_curves, .ref h0_ps, .ref h0_as, .ref h0_bs, .ref h0_from, .ref h0_kernelPoint, .ref h0_kernelOrder, .ref h0_marked, .ref h0_seen])), (h0_inverses, .inl (k_t_inverses, 10008, .inl t_inverses))]) [0, 1] rfl
            have hKc := hK.sub (tys' := [(k_t_inverses, .int)]) [0] rfl
            refine vp_callSi (W.runV (As := [.int x4, .int x4]) (rest := []) ⟨hx, hb, hml, hown, hts⟩ (ctX6_sum l N dC dI  h0 h0_inverses h0_roots h0_points h0_ahead h0_ps h0_as h0_bs h0_from h0_kernelPoint h0_kernelOrder h0_marked h0_seen k_t_inverses t_p t_a t_b t_rooted t_pointMany t_curves t_inverses x4 x4 r14 hr14) (cwV 2 hts gX6_multiple_X6_sum rfl rfl rfl (by decide +kernel) ⟨Nat.le_of_ble_eq_true rfl, Nat.le_of_ble_eq_true rfl⟩) ⟨fun a U g mk q => by obtain ⟨q0, qP, qK, qN⟩ := q; exact ⟨q0, qP, va_K.moved (u := U) (U := U.calling g mk a) (Vm.Alike.refl U.vm) qK, nw_same (u := U) (U := U.calling g mk a) rfl qN⟩, va_recv hKc hPc (ci := 5) (q0 := 0) rfl rfl, fun U hU hW => ⟨rfl, by rw [hU]; exact hPc, va_K.moved hW.alike hKc, nw_warm hW hN⟩⟩ rfl rfl hl.1 rfl (lv_room (Nat.le_of_ble_eq_true rfl)) dX6_multiple_61 ⟨Nat.le_of_ble_eq_true rfl, Nat.le_of_ble_eq_true rfl⟩) (fun q9 eq9 => ?_)
            subst q9
            refine lv_istore (lv' := [(5, .int r14), (4, .int x3), (6, .long x5), (0, .ref h0), (1, .int a0), (2, .long a1)]) hx hb dX6_multiple_64 hl (by decide) rfl (fun ls hl => ?_)
            refine lv_lload hx hb dX6_multiple_66 (lv_at hl 2 rfl) ?_
            refine lv_ldc2 (v := 2) hx hb hown (hts (.constantLong RX6 81 2) (by decide +kernel)) dX6_multiple_68 ?_
            refine lv_ldiv hx hb dX6_multiple_71 (by decide) ?_
            refine lv_topl (fun v15 ev15 => ?_)
            replace h := mi_use ev15 h
            refine lv_lstore (lv' := [(6, .long v15), (5, .int r14), (4, .int x3), (0, .ref h0), (1, .int a0), (2, .long a1)]) hx hb dX6_multiple_72 hl (by decide) rfl (fun ls hl => ?_)
            refine lv_goto (tgt := 23) hx hb dX6_multiple_74 (by decide) ?_
            exact ih _ _ _ _ (hA _ (Option.some.inj h).symm) hkE ls (lv_sub hl [2, 1, 0, 3, 4, 5] rfl)
          · replace h := (if_neg c13).symm.trans h
            refine lv_aload_n hx hb dX6_multiple_41 rfl (lv_at hl 3 rfl) ?_
            refine lv_iload hx hb dX6_multiple_42 (lv_at hl 0 rfl) ?_
            refine lv_iload hx hb dX6_multiple_44 (lv_at hl 1 rfl) ?_
            obtain ⟨r16, hr16, h⟩ := Option.bind_eq_some_iff.mp h
            have hPc := hP.sub (ws' := [(h0, .inr (5, [.int t_p, .int t_a, .int t_b, .ref h0_inverses, .ref h0_roots, .int t_rooted, .ref h0_points, .int t_pointMany, .ref h0_ahead, .int t_curves, .ref h0_ps, .ref h0_as, .ref h0_bs, .ref h0_from, .ref h0_kernelPoint, .ref h0_kernelOrder, .ref h0_marked, .ref h0_seen])), (h0_inverses, .inl (k_t_inverses, 10008, .inl t_inverses))]) [0, 1] rfl
            have hKc := hK.sub (tys' := [(k_t_inverses, .int)]) [0] rfl
            refine vp_callSi (W.runV (As := [.int x3, .int x4]) (rest := []) ⟨hx, hb, hml, hown, hts⟩ (ctX6_sum l N dC dI  h0 h0_inverses h0_roots h0_points h0_ahead h0_ps h0_as h0_bs h0_from h0_kernelPoint h0_kernelOrder h0_marked h0_seen k_t_inverses t_p t_a t_b t_rooted t_pointMany t_curves t_inverses x3 x4 r16 hr16) (cwV 2 hts gX6_multiple_X6_sum rfl rfl rfl (by decide +kernel) ⟨Nat.le_of_ble_eq_true rfl, Nat.le_of_ble_eq_true rfl⟩) ⟨fun a U g mk q => by obtain ⟨q0, qP, qK, qN⟩ := q; exact ⟨q0, qP, va_K.moved (u := U) (U := U.calling g mk a) (Vm.Alike.refl U.vm) qK, nw_same (u := U) (U := U.calling g mk a) rfl qN⟩, va_recv hKc hPc (ci := 5) (q0 := 0) rfl rfl, fun U hU hW => ⟨rfl, by rw [hU]; exact hPc, va_K.moved hW.alike hKc, nw_warm hW hN⟩⟩ rfl rfl hl.1 rfl (lv_room (Nat.le_of_ble_eq_true rfl)) dX6_multiple_46 ⟨Nat.le_of_ble_eq_true rfl, Nat.le_of_ble_eq_true rfl⟩) (fun q9 eq9 => ?_)
            subst q9
            refine lv_goto (tgt := 54) hx hb dX6_multiple_49 (by decide) ?_
            refine lv_istore (lv' := [(4, .int r16), (5, .int x4), (6, .long x5), (0, .ref h0), (1, .int a0), (2, .long a1)]) hx hb dX6_multiple_54 hl (by decide) rfl (fun ls hl => ?_)
            refine lv_aload_n hx hb dX6_multiple_56 rfl (lv_at hl 3 rfl) ?_
            refine lv_iload hx hb dX6_multiple_57 (lv_at hl 1 rfl) ?_
            refine lv_iload hx hb dX6_multiple_59 (lv_at hl 1 rfl) ?_
            obtain ⟨r17, hr17, h⟩ := Option.bind_eq_some_iff.mp h
            have hPc := hP.sub (ws' := [(h0, .inr (5, [.int t_p, .int t_a, .int t_b, .ref h0_inverses, .ref h0_roots, .int t_rooted, .ref h0_points, .int t_pointMany, .ref h0_ahead, .int t_curves, .ref h0_ps, .ref h0_as, .ref h0_bs, .ref h0_from, .ref h0_kernelPoint, .ref h0_kernelOrder, .ref h0_marked, .ref h0_seen])), (h0_inverses, .inl (k_t_inverses, 10008, .inl t_inverses))]) [0, 1] rfl
            have hKc := hK.sub (tys' := [(k_t_inverses, .int)]) [0] rfl
            refine vp_callSi (W.runV (As := [.int x4, .int x4]) (rest := []) ⟨hx, hb, hml, hown, hts⟩ (ctX6_sum l N dC dI  h0 h0_inverses h0_roots h0_points h0_ahead h0_ps h0_as h0_bs h0_from h0_kernelPoint h0_kernelOrder h0_marked h0_seen k_t_inverses t_p t_a t_b t_rooted t_pointMany t_curves t_inverses x4 x4 r17 hr17) (cwV 2 hts gX6_multiple_X6_sum rfl rfl rfl (by decide +kernel) ⟨Nat.le_of_ble_eq_true rfl, Nat.le_of_ble_eq_true rfl⟩) ⟨fun a U g mk q => by obtain ⟨q0, qP, qK, qN⟩ := q; exact ⟨q0, qP, va_K.moved (u := U) (U := U.calling g mk a) (Vm.Alike.refl U.vm) qK, nw_same (u := U) (U := U.calling g mk a) rfl qN⟩, va_recv hKc hPc (ci := 5) (q0 := 0) rfl rfl, fun U hU hW => ⟨rfl, by rw [hU]; exact hPc, va_K.moved hW.alike hKc, nw_warm hW hN⟩⟩ rfl rfl hl.1 rfl (lv_room (Nat.le_of_ble_eq_true rfl)) dX6_multiple_61 ⟨Nat.le_of_ble_eq_true rfl, Nat.le_of_ble_eq_true rfl⟩) (fun q9 eq9 => ?_)
            subst q9
            refine lv_istore (lv' := [(5, .int r17), (4, .int r16), (6, .long x5), (0, .ref h0), (1, .int a0), (2, .long a1)]) hx hb dX6_multiple_64 hl (by decide) rfl (fun ls hl => ?_)
            refine lv_lload hx hb dX6_multiple_66 (lv_at hl 2 rfl) ?_
            refine lv_ldc2 (v := 2) hx hb hown (hts (.constantLong RX6 81 2) (by decide +kernel)) dX6_multiple_68 ?_
            refine lv_ldiv hx hb dX6_multiple_71 (by decide) ?_
            refine lv_topl (fun v18 ev18 => ?_)
            replace h := mi_use ev18 h
            refine lv_lstore (lv' := [(6, .long v18), (5, .int r17), (4, .int r16), (0, .ref h0), (1, .int a0), (2, .long a1)]) hx hb dX6_multiple_72 hl (by decide) rfl (fun ls hl => ?_)
            refine lv_goto (tgt := 23) hx hb dX6_multiple_74 (by decide) ?_
            exact ih _ _ _ _ (hA _ (Option.some.inj h).symm) hkE ls (lv_sub hl [2, 1, 0, 3, 4, 5] rfl)
    obtain ⟨o19, ho19, h⟩ := Option.bind_eq_some_iff.mp h
    refine L23 N _ _ _ o19 ho19 ?_ ls (lv_sub hl [2, 1, 0, 3, 4, 5] rfl)
    intro y6 y7 y8 eo ls hl
    subst eo
    try dsimp only at h
    refine lv_iload hx hb dX6_multiple_77 (lv_at hl 0 rfl) ?_
    have hv : y6 = rr := Option.some.inj h
    exact W.iret (v := y6) hx hb hr (fun t ht hW => ⟨_, rfl, hv, ht⟩) (fun q hq => absurd hq List.not_mem_nil) dX6_multiple_79
  · replace h := (if_neg c2).symm.trans h
    refine lv_aload_n hx hb dX6_multiple_9 rfl (lv_at hl 1 rfl) ?_
    refine lv_iload_n hx hb dX6_multiple_10 rfl (lv_at hl 2 rfl) ?_
    obtain ⟨r20, hr20, h⟩ := Option.bind_eq_some_iff.mp h
    have hPc := hP.sub (ws' := [(h0, .inr (5, [.int t_p, .int t_a, .int t_b, .ref h0_inverses, .ref h0_roots, .int t_rooted, .ref h0_points, .int t_pointMany, .ref h0_ahead, .int t_curves, .ref h0_ps, .ref h0_as, .ref h0_bs, .ref h0_from, .ref h0_kernelPoint, .ref h0_kernelOrder, .ref h0_marked, .ref h0_seen]))]) [0] rfl
    have hKc := hK.sub (tys' := []) [] rfl
    refine vp_callSi (W.runV (As := [.int a0]) (rest := []) ⟨hx, hb, hml, hown, hts⟩ (ctX6_negativeOf l N dC dI  h0 h0_inverses h0_roots h0_points h0_ahead h0_ps h0_as h0_bs h0_from h0_kernelPoint h0_kernelOrder h0_marked h0_seen t_p t_a t_b t_rooted t_pointMany t_curves a0 r20 hr20) (cwV 1 hts gX6_multiple_X6_negativeOf rfl rfl rfl (by decide +kernel) ⟨Nat.le_of_ble_eq_true rfl, Nat.le_of_ble_eq_true rfl⟩) ⟨fun a U g mk q => by obtain ⟨q0, qP, qK, qN⟩ := q; exact ⟨q0, qP, va_K.moved (u := U) (U := U.calling g mk a) (Vm.Alike.refl U.vm) qK, nw_same (u := U) (U := U.calling g mk a) rfl qN⟩, va_recv hKc hPc (ci := 5) (q0 := 0) rfl rfl, fun U hU hW => ⟨rfl, by rw [hU]; exact hPc, va_K.moved hW.alike hKc, nw_warm hW hN⟩⟩ rfl rfl hl.1 rfl (lv_room (Nat.le_of_ble_eq_true rfl)) dX6_multiple_11 ⟨Nat.le_of_ble_eq_true rfl, Nat.le_of_ble_eq_true rfl⟩) (fun q9 eq9 => ?_)
    subst q9
    refine lv_goto (tgt := 18) hx hb dX6_multiple_14 (by decide) ?_
    refine lv_istore (lv' := [(5, .int r20), (4, .int (-1)), (0, .ref h0), (1, .int a0), (2, .long a1)]) hx hb dX6_multiple_18 hl (by decide) rfl (fun ls hl => ?_)
    refine lv_lload_n hx hb dX6_multiple_20 rfl (lv_at hl 4 rfl) ?_
    refine lv_lstore (lv' := [(6, .long a1), (5, .int r20), (4, .int (-1)), (0, .ref h0), (1, .int a0), (2, .long a1)]) hx hb dX6_multiple_21 hl (by decide) rfl (fun ls hl => ?_)
    have L23 : ∀ (n : Nat) (x21 : Int32) (x22 : Int32) (x23 : Int64) (o : Int32 × Int32 × Int64), mi_run (mX6_multiple_b23 N t_p t_a t_inverses) n (x21, x22, x23) = some o → (∀ (y24 : Int32) (y25 : Int32) (y26 : Int64), o = (y24, y25, y26) → ∀ ls, lv_has ls 8 [(4, .int y24), (5, .int y25), (6, .long y26), (0, .ref h0), (1, .int a0), (2, .long a1)] → W p l e (headSpec wsX6_multiple rmX6_multiple).room s m (([.ref h0, .int a0, .long a1] : List Value).toArray) below meth c s.heap [] 0 0 (MQ below (vp_Si (fun r => r = rr)) (([.ref h0, .int a0, .long a1] : List Value).toArray) s 0 0 (fun _ => False)) (F0 m 77 ls [])) → ∀ ls, lv_has ls 8 [(4, .int x21), (5, .int x22), (6, .long x23), (0, .ref h0), (1, .int a0), (2, .long a1)] → W p l e (headSpec wsX6_multiple rmX6_multiple).room s m (([.ref h0, .int a0, .long a1] : List Value).toArray) below meth c s.heap [] 0 0 (MQ below (vp_Si (fun r => r = rr)) (([.ref h0, .int a0, .long a1] : List Value).toArray) s 0 0 (fun _ => False)) (F0 m 23 ls []) := by
      intro n
      induction n with
      | zero => intro x21 x22 x23 o h; exact absurd h (mi_run_0 _ _ _)
      | succ n ih =>
        intro x21 x22 x23 o h hkE ls hl
        obtain ⟨w, h, hA, hB⟩ := mi_run_s h
        dsimp only [mX6_multiple_b23] at h
        refine lv_lload hx hb dX6_multiple_23 (lv_at hl 2 rfl) ?_
        refine lv_lconst (v := 0) hx hb dX6_multiple_25 (by decide) ?_
        refine W.lcmp hx hb dX6_multiple_26 ?_
        refine lv_topi (fun v27 ev27 => ?_)
        replace h := mi_use ev27 h
        refine lv_if_eq (tgt := 77) hx hb dX6_multiple_27 (by decide) (fun c28 => ?_) (fun c28 => ?_)
        · replace h := (if_pos c28).symm.trans h
          exact hkE _ _ _ (hB _ (Option.some.inj h).symm) ls (lv_sub hl [0, 1, 2, 3, 4, 5] rfl)
        · replace h := (if_neg c28).symm.trans h
          refine lv_lload hx hb dX6_multiple_30 (lv_at hl 2 rfl) ?_
          refine lv_ldc2 (v := 2) hx hb hown (hts (.constantLong RX6 81 2) (by decide +kernel)) dX6_multiple_32 ?_
          refine lv_lrem hx hb dX6_multiple_35 (by decide) ?_
          refine lv_topl (fun v29 ev29 => ?_)
          replace h := mi_use ev29 h
          refine lv_lconst (v := 0) hx hb dX6_multiple_36 (by decide) ?_
          refine W.lcmp hx hb dX6_multiple_37 ?_
          refine lv_topi (fun v30 ev30 => ?_)
          replace h := mi_use ev30 h
          refine lv_if_eq (tgt := 52) hx hb dX6_multiple_38 (by decide) (fun c31 => ?_) (fun c31 => ?_)
          · replace h := (if_pos c31).symm.trans h
            refine lv_iload hx hb dX6_multiple_52 (lv_at hl 0 rfl) ?_
            refine lv_istore (lv' := [(4, .int x21), (5, .int x22), (6, .long x23), (0, .ref h0), (1, .int a0), (2, .long a1)]) hx hb dX6_multiple_54 hl (by decide) rfl (fun ls hl => ?_)
            refine lv_aload_n hx hb dX6_multiple_56 rfl (lv_at hl 3 rfl) ?_
            refine lv_iload hx hb dX6_multiple_57 (lv_at hl 1 rfl) ?_
            refine lv_iload hx hb dX6_multiple_59 (lv_at hl 1 rfl) ?_
            obtain ⟨r32, hr32, h⟩ := Option.bind_eq_some_iff.mp h
            have hPc := hP.sub (ws' := [(h0, .inr (5, [.int t_p, .int t_a, .int t_b, .ref h0_inverses, .ref h0_roots, .int t_rooted, .ref h0_points, .int t_pointMany, .ref h0_ahead, .int t_curves, .ref h0_ps, .ref h0_as, .ref h0_bs, .ref h0_from, .ref h0_kernelPoint, .ref h0_kernelOrder, .ref h0_marked, .ref h0_seen])), (h0_inverses, .inl (k_t_inverses, 10008, .inl t_inverses))]) [0, 1] rfl
            have hKc := hK.sub (tys' := [(k_t_inverses, .int)]) [0] rfl
            refine vp_callSi (W.runV (As := [.int x22, .int x22]) (rest := []) ⟨hx, hb, hml, hown, hts⟩ (ctX6_sum l N dC dI  h0 h0_inverses h0_roots h0_points h0_ahead h0_ps h0_as h0_bs h0_from h0_kernelPoint h0_kernelOrder h0_marked h0_seen k_t_inverses t_p t_a t_b t_rooted t_pointMany t_curves t_inverses x22 x22 r32 hr32) (cwV 2 hts gX6_multiple_X6_sum rfl rfl rfl (by decide +kernel) ⟨Nat.le_of_ble_eq_true rfl, Nat.le_of_ble_eq_true rfl⟩) ⟨fun a U g mk q => by obtain ⟨q0, qP, qK, qN⟩ := q; exact ⟨q0, qP, va_K.moved (u := U) (U := U.calling g mk a) (Vm.Alike.refl U.vm) qK, nw_same (u := U) (U := U.calling g mk a) rfl qN⟩, va_recv hKc hPc (ci := 5) (q0 := 0) rfl rfl, fun U hU hW => ⟨rfl, by rw [hU]; exact hPc, va_K.moved hW.alike hKc, nw_warm hW hN⟩⟩ rfl rfl hl.1 rfl (lv_room (Nat.le_of_ble_eq_true rfl)) dX6_multiple_61 ⟨Nat.le_of_ble_eq_true rfl, Nat.le_of_ble_eq_true rfl⟩) (fun q9 eq9 => ?_)
            subst q9
            refine lv_istore (lv' := [(5, .int r32), (4, .int x21), (6, .long x23), (0, .ref h0), (1, .int a0), (2, .long a1)]) hx hb dX6_multiple_64 hl (by decide) rfl (fun ls hl => ?_)
            refine lv_lload hx hb dX6_multiple_66 (lv_at hl 2 rfl) ?_
            refine lv_ldc2 (v := 2) hx hb hown (hts (.constantLong RX6 81 2) (by decide +kernel)) dX6_multiple_68 ?_
            refine lv_ldiv hx hb dX6_multiple_71 (by decide) ?_
            refine lv_topl (fun v33 ev33 => ?_)
            replace h := mi_use ev33 h
            refine lv_lstore (lv' := [(6, .long v33), (5, .int r32), (4, .int x21), (0, .ref h0), (1, .int a0), (2, .long a1)]) hx hb dX6_multiple_72 hl (by decide) rfl (fun ls hl => ?_)
            refine lv_goto (tgt := 23) hx hb dX6_multiple_74 (by decide) ?_
            exact ih _ _ _ _ (hA _ (Option.some.inj h).symm) hkE ls (lv_sub hl [2, 1, 0, 3, 4, 5] rfl)
          · replace h := (if_neg c31).symm.trans h
            refine lv_aload_n hx hb dX6_multiple_41 rfl (lv_at hl 3 rfl) ?_
            refine lv_iload hx hb dX6_multiple_42 (lv_at hl 0 rfl) ?_
            refine lv_iload hx hb dX6_multiple_44 (lv_at hl 1 rfl) ?_
            obtain ⟨r34, hr34, h⟩ := Option.bind_eq_some_iff.mp h
            have hPc := hP.sub (ws' := [(h0, .inr (5, [.int t_p, .int t_a, .int t_b, .ref h0_inverses, .ref h0_roots, .int t_rooted, .ref h0_points, .int t_pointMany, .ref h0_ahead, .int t_curves, .ref h0_ps, .ref h0_as, .ref h0_bs, .ref h0_from, .ref h0_kernelPoint, .ref h0_kernelOrder, .ref h0_marked, .ref h0_seen])), (h0_inverses, .inl (k_t_inverses, 10008, .inl t_inverses))]) [0, 1] rfl
            have hKc := hK.sub (tys' := [(k_t_inverses, .int)]) [0] rfl
            refine vp_callSi (W.runV (As := [.int x21, .int x22]) (rest := []) ⟨hx, hb, hml, hown, hts⟩ (ctX6_sum l N dC dI  h0 h0_inverses h0_roots h0_points h0_ahead h0_ps h0_as h0_bs h0_from h0_kernelPoint h0_kernelOrder h0_marked h0_seen k_t_inverses t_p t_a t_b t_rooted t_pointMany t_curves t_inverses x21 x22 r34 hr34) (cwV 2 hts gX6_multiple_X6_sum rfl rfl rfl (by decide +kernel) ⟨Nat.le_of_ble_eq_true rfl, Nat.le_of_ble_eq_true rfl⟩) ⟨fun a U g mk q => by obtain ⟨q0, qP, qK, qN⟩ := q; exact ⟨q0, qP, va_K.moved (u := U) (U := U.calling g mk a) (Vm.Alike.refl U.vm) qK, nw_same (u := U) (U := U.calling g mk a) rfl qN⟩, va_recv hKc hPc (ci := 5) (q0 := 0) rfl rfl, fun U hU hW => ⟨rfl, by rw [hU]; exact hPc, va_K.moved hW.alike hKc, nw_warm hW hN⟩⟩ rfl rfl hl.1 rfl (lv_room (Nat.le_of_ble_eq_true rfl)) dX6_multiple_46 ⟨Nat.le_of_ble_eq_true rfl, Nat.le_of_ble_eq_true rfl⟩) (fun q9 eq9 => ?_)
            subst q9
            refine lv_goto (tgt := 54) hx hb dX6_multiple_49 (by decide) ?_
            refine lv_istore (lv' := [(4, .int r34), (5, .int x22), (6, .long x23), (0, .ref h0), (1, .int a0), (2, .long a1)]) hx hb dX6_multiple_54 hl (by decide) rfl (fun ls hl => ?_)
            refine lv_aload_n hx hb dX6_multiple_56 rfl (lv_at hl 3 rfl) ?_
            refine lv_iload hx hb dX6_multiple_57 (lv_at hl 1 rfl) ?_
            refine lv_iload hx hb dX6_multiple_59 (lv_at hl 1 rfl) ?_
            obtain ⟨r35, hr35, h⟩ := Option.bind_eq_some_iff.mp h
            have hPc := hP.sub (ws' := [(h0, .inr (5, [.int t_p, .int t_a, .int t_b, .ref h0_inverses, .ref h0_roots, .int t_rooted, .ref h0_points, .int t_pointMany, .ref h0_ahead, .int t_curves, .ref h0_ps, .ref h0_as, .ref h0_bs, .ref h0_from, .ref h0_kernelPoint, .ref h0_kernelOrder, .ref h0_marked, .ref h0_seen])), (h0_inverses, .inl (k_t_inverses, 10008, .inl t_inverses))]) [0, 1] rfl
            have hKc := hK.sub (tys' := [(k_t_inverses, .int)]) [0] rfl
            refine vp_callSi (W.runV (As := [.int x22, .int x22]) (rest := []) ⟨hx, hb, hml, hown, hts⟩ (ctX6_sum l N dC dI  h0 h0_inverses h0_roots h0_points h0_ahead h0_ps h0_as h0_bs h0_from h0_kernelPoint h0_kernelOrder h0_marked h0_seen k_t_inverses t_p t_a t_b t_rooted t_pointMany t_curves t_inverses x22 x22 r35 hr35) (cwV 2 hts gX6_multiple_X6_sum rfl rfl rfl (by decide +kernel) ⟨Nat.le_of_ble_eq_true rfl, Nat.le_of_ble_eq_true rfl⟩) ⟨fun a U g mk q => by obtain ⟨q0, qP, qK, qN⟩ := q; exact ⟨q0, qP, va_K.moved (u := U) (U := U.calling g mk a) (Vm.Alike.refl U.vm) qK, nw_same (u := U) (U := U.calling g mk a) rfl qN⟩, va_recv hKc hPc (ci := 5) (q0 := 0) rfl rfl, fun U hU hW => ⟨rfl, by rw [hU]; exact hPc, va_K.moved hW.alike hKc, nw_warm hW hN⟩⟩ rfl rfl hl.1 rfl (lv_room (Nat.le_of_ble_eq_true rfl)) dX6_multiple_61 ⟨Nat.le_of_ble_eq_true rfl, Nat.le_of_ble_eq_true rfl⟩) (fun q9 eq9 => ?_)
            subst q9
            refine lv_istore (lv' := [(5, .int r35), (4, .int r34), (6, .long x23), (0, .ref h0), (1, .int a0), (2, .long a1)]) hx hb dX6_multiple_64 hl (by decide) rfl (fun ls hl => ?_)
            refine lv_lload hx hb dX6_multiple_66 (lv_at hl 2 rfl) ?_
            refine lv_ldc2 (v := 2) hx hb hown (hts (.constantLong RX6 81 2) (by decide +kernel)) dX6_multiple_68 ?_
            refine lv_ldiv hx hb dX6_multiple_71 (by decide) ?_
            refine lv_topl (fun v36 ev36 => ?_)
            replace h := mi_use ev36 h
            refine lv_lstore (lv' := [(6, .long v36), (5, .int r35), (4, .int r34), (0, .ref h0), (1, .int a0), (2, .long a1)]) hx hb dX6_multiple_72 hl (by decide) rfl (fun ls hl => ?_)
            refine lv_goto (tgt := 23) hx hb dX6_multiple_74 (by decide) ?_
            exact ih _ _ _ _ (hA _ (Option.some.inj h).symm) hkE ls (lv_sub hl [2, 1, 0, 3, 4, 5] rfl)
    obtain ⟨o37, ho37, h⟩ := Option.bind_eq_some_iff.mp h
    refine L23 N _ _ _ o37 ho37 ?_ ls (lv_sub hl [2, 1, 0, 3, 4, 5] rfl)
    intro y24 y25 y26 eo ls hl
    subst eo
    try dsimp only at h
    refine lv_iload hx hb dX6_multiple_77 (lv_at hl 0 rfl) ?_
    have hv : y24 = rr := Option.some.inj h
    exact W.iret (v := y24) hx hb hr (fun t ht hW => ⟨_, rfl, hv, ht⟩) (fun q hq => absurd hq List.not_mem_nil) dX6_multiple_79
