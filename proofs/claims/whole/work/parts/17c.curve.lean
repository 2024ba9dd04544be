def mX5_pair (N : Nat) (a0 : Int32) (a1 : Int32) : Option (Int32) := some ((a0 <<< (14 &&& 31)) + a1)
abbrev rmX5_pair : Room := { frames := 0, cells := 0, slots := 0, locals := 0 }
set_option maxHeartbeats 4000000 in
set_option maxRecDepth 100000 in
theorem ctX5_pair (l : Launch) (N : Nat) (a0 : Int32) (a1 : Int32) (rr : Int32) (h : mX5_pair N a0 a1 = some rr) : Met l yX5_pair wsX5_pair rmX5_pair (fun v _ => v = ([.int a0, .int a1] : List Value).toArray) (vp_Si (fun r => r = rr)) 0 0 (fun _ => False) := by
  refine Met.ofW (cc := cX5_pair) (maxL := 2) (ret := (some .int)) (by decide) rfl ?_
  intro p e s m args below meth c s₁ B hml hv
  subst hv
  have hx := B.exec
  have hb := B.bytes
  have hr := B.returns
  have hts := atoms_spec (ws := wsX5_pair) B.pre
  have hown : s.vm.findClass RX5 = some m.cls := findClass_of_methodNamed B.named
  have hlocks := B.notSynchronized
  have hl := lv_entry ([.int a0, .int a1]) (n := 2) (Nat.le_of_ble_eq_true rfl)
  rw [lg_entry_eq]
  generalize (lg_sl ([.int a0, .int a1]) ++ List.replicate (2 - (lg_sl ([.int a0, .int a1])).length) Slot.unset).toArray = ls at hl ⊢
  have hl : lv_has ls 2 [(0, .int a0), (1, .int a1)] := hl
  dsimp only [mX5_pair] at h
  refine lv_iload_n hx hb dX5_pair_0 rfl (lv_at hl 0 rfl) ?_
  refine lv_bipush (v := 14) hx hb dX5_pair_1 (by decide) ?_
  refine lv_ishl hx hb dX5_pair_3 ?_
  refine lv_iload_n hx hb dX5_pair_4 rfl (lv_at hl 1 rfl) ?_
  refine lv_iadd hx hb dX5_pair_5 ?_
  have hv : (a0 <<< (14 &&& 31)) + a1 = rr := Option.some.inj h
  exact W.iret (v := ((a0 <<< (14 &&& 31)) + a1)) hx hb hr (fun t ht hW => ⟨_, rfl, hv, ht⟩) (fun q hq => absurd hq List.not_mem_nil) dX5_pair_6
def mX5_xOf (N : Nat) (a0 : Int32) : Option (Int32) := some (a0 >>> (14 &&& 31))
abbrev rmX5_xOf : Room := { frames := 0, cells := 0, slots := 0, locals := 0 }
set_option maxHeartbeats 4000000 in
set_option maxRecDepth 100000 in
theorem ctX5_xOf (l : Launch) (N : Nat) (a0 : Int32) (rr : Int32) (h : mX5_xOf N a0 = some rr) : Met l yX5_xOf wsX5_xOf rmX5_xOf (fun v _ => v = ([.int a0] : List Value).toArray) (vp_Si (fun r => r = rr)) 0 0 (fun _ => False) := by
  refine Met.ofW (cc := cX5_xOf) (maxL := 1) (ret := (some .int)) (by decide) rfl ?_
  intro p e s m args below meth c s₁ B hml hv
  subst hv
  have hx := B.exec
  have hb := B.bytes
  have hr := B.returns
  have hts := atoms_spec (ws := wsX5_xOf) B.pre
  have hown : s.vm.findClass RX5 = some m.cls := findClass_of_methodNamed B.named
  have hlocks := B.notSynchronized
  have hl := lv_entry ([.int a0]) (n := 1) (Nat.le_of_ble_eq_true rfl)
  rw [lg_entry_eq]
  generalize (lg_sl ([.int a0]) ++ List.replicate (1 - (lg_sl ([.int a0])).length) Slot.unset).toArray = ls at hl ⊢
  have hl : lv_has ls 1 [(0, .int a0)] := hl
  dsimp only [mX5_xOf] at h
  refine lv_iload_n hx hb dX5_xOf_0 rfl (lv_at hl 0 rfl) ?_
  refine lv_bipush (v := 14) hx hb dX5_xOf_1 (by decide) ?_
  refine lv_ishr hx hb dX5_xOf_3 ?_
  have hv : a0 >>> (14 &&& 31) = rr := Option.some.inj h
  exact W.iret (v := (a0 >>> (14 &&& 31))) hx hb hr (fun t ht hW => ⟨_, rfl, hv, ht⟩) (fun q hq => absurd hq List.not_mem_nil) dX5_xOf_4
def mX5_yOf (N : Nat) (a0 : Int32) : Option (Int32) := some (a0 &&& 16383)
abbrev rmX5_yOf : Room := { frames := 0, cells := 0, slots := 0, locals := 0 }
set_option maxHeartbeats 4000000 in
set_option maxRecDepth 100000 in
theorem ctX5_yOf (l : Launch) (N : Nat) (a0 : Int32) (rr : Int32) (h : mX5_yOf N a0 = some rr) : Met l yX5_yOf wsX5_yOf rmX5_yOf (fun v _ => v = ([.int a0] : List Value).toArray) (vp_Si (fun r => r = rr)) 0 0 (fun _ => False) := by
  refine Met.ofW (cc := cX5_yOf) (maxL := 1) (ret := (some .int)) (by decide) rfl ?_
  intro p e s m args below meth c s₁ B hml hv
  subst hv
  have hx := B.exec
  have hb := B.bytes
  have hr := B.returns
  have hts := atoms_spec (ws := wsX5_yOf) B.pre
  have hown : s.vm.findClass RX5 = some m.cls := findClass_of_methodNamed B.named
  have hlocks := B.notSynchronized
  have hl := lv_entry ([.int a0]) (n := 1) (Nat.le_of_ble_eq_true rfl)
  rw [lg_entry_eq]
  generalize (lg_sl ([.int a0]) ++ List.replicate (1 - (lg_sl ([.int a0])).length) Slot.unset).toArray = ls at hl ⊢
  have hl : lv_has ls 1 [(0, .int a0)] := hl
  dsimp only [mX5_yOf] at h
  refine lv_iload_n hx hb dX5_yOf_0 rfl (lv_at hl 0 rfl) ?_
  refine lv_sipush (v := 16383) hx hb dX5_yOf_1 (by decide) ?_
  refine lv_iand hx hb dX5_yOf_4 ?_
  have hv : a0 &&& 16383 = rr := Option.some.inj h
  exact W.iret (v := (a0 &&& 16383)) hx hb hr (fun t ht hW => ⟨_, rfl, hv, ht⟩) (fun q hq => absurd hq List.not_mem_nil) dX5_yOf_5
def mX0_cubic (N : Nat) (t_p : Int32) (t_a : Int32) (t_b : Int32) (a0 : Int32) : Option (Int32) := if t_p = 0 then none else mi_let (mi_rem ((a0 * a0) + t_a) t_p) (fun v2 => if t_p = 0 then none else mi_let (mi_rem ((v2 * a0) + t_b) t_p) (fun v4 => some v4))
abbrev rmX0_cubic : Room := { frames := 0, cells := 0, slots := 0, locals := 0 }
set_option maxHeartbeats 4000000 in
set_option maxRecDepth 100000 in
theorem ctX0_cubic (l : Launch) (N : Nat) (dC : Nat → ClassId) (dI : Nat → Nat → Nat) (h0 : Nat) (t_p : Int32) (t_a : Int32) (t_b : Int32) (t_from : Int32) (t_kernelPoint : Int32) (t_kernelOrder : Int32) (t_points : Int32) (t_inner : Int32) (t_outer : Int32) (t_makersFound : Int32) (t_first : Int32) (t_second : Int32) (a0 : Int32) (rr : Int32) (h : mX0_cubic N t_p t_a t_b a0 = some rr) : Met l yX0_cubic wsX0_cubic rmX0_cubic (va_Pc [.ref h0, .int a0] (fun U => va_P (dC, dI) vwCl [(h0, .inr (0, [.int t_p, .int t_a, .int t_b, .int t_from, .int t_kernelPoint, .int t_kernelOrder, .int t_points, .int t_inner, .int t_outer, .int t_makersFound, .int t_first, .int t_second]))] U.heap ∧ va_K (dC, dI) vwCl [] U ∧ nw_all U)) (vp_Si (fun r => r = rr)) 0 0 (fun _ => False) := by
  refine Met.ofW (cc := cX0_cubic) (maxL := 2) (ret := (some .int)) (by decide) rfl ?_
  intro p e s m args below meth c s₁ B hml hv
  obtain ⟨rfl, hP, hK, hN⟩ := hv
  have hx := B.exec
  have hb := B.bytes
  have hr := B.returns
  have hts := atoms_spec (ws := wsX0_cubic) B.pre
  have hown : s.vm.findClass RX0 = some m.cls := findClass_of_methodNamed B.named
  have hlocks := B.notSynchronized
  have hl := lv_entry ([.ref h0, .int a0]) (n := 2) (Nat.le_of_ble_eq_true rfl)
  rw [lg_entry_eq]
  generalize (lg_sl ([.ref h0, .int a0]) ++ List.replicate (2 - (lg_sl ([.ref h0, .int a0])).length) Slot.unset).toArray = ls at hl ⊢
  have hl : lv_has ls 2 [(0, .ref h0), (1, .int a0)] := hl
  dsimp only [mX0_cubic] at h
  refine lv_iload_n hx hb dX0_cubic_0 rfl (lv_at hl 1 rfl) ?_
  refine lv_iload_n hx hb dX0_cubic_1 rfl (lv_at hl 1 rfl) ?_
  refine lv_imul hx hb dX0_cubic_2 ?_
  refine lv_aload_n hx hb dX0_cubic_3 rfl (lv_at hl 0 rfl) ?_
  refine va_get (D := (dC, dI)) (ci := 0) (v := .int t_a) (C := RX0) (T := TX0) (N := 12) hx hb hts (by decide +kernel) hown hK hP 0 rfl rfl 1 (by decide) (hts (.fieldLink RX0 15 "PointRings$Curve" "a" "I") (by decide +kernel)) (fun _ h9 => h9) rfl dX0_cubic_4 ?_
  refine lv_iadd hx hb dX0_cubic_7 ?_
  refine lv_aload_n hx hb dX0_cubic_8 rfl (lv_at hl 0 rfl) ?_
  refine va_get (D := (dC, dI)) (ci := 0) (v := .int t_p) (C := RX0) (T := TX0) (N := 12) hx hb hts (by decide +kernel) hown hK hP 0 rfl rfl 0 (by decide) (hts (.fieldLink RX0 9 "PointRings$Curve" "p" "I") (by decide +kernel)) (fun _ h9 => h9) rfl dX0_cubic_9 ?_
  have hn1 : ¬ t_p = 0 := fun hz => absurd ((if_pos hz).symm.trans h) (fun hh => nomatch hh)
  replace h := (if_neg hn1).symm.trans h
  refine lv_irem hx hb dX0_cubic_12 hn1 ?_
  refine lv_topi (fun v2 ev2 => ?_)
  replace h := mi_use ev2 h
  refine lv_iload_n hx hb dX0_cubic_13 rfl (lv_at hl 1 rfl) ?_
  refine lv_imul hx hb dX0_cubic_14 ?_
  refine lv_aload_n hx hb dX0_cubic_15 rfl (lv_at hl 0 rfl) ?_
  refine va_get (D := (dC, dI)) (ci := 0) (v := .int t_b) (C := RX0) (T := TX0) (N := 12) hx hb hts (by decide +kernel) hown hK hP 0 rfl rfl 2 (by decide) (hts (.fieldLink RX0 18 "PointRings$Curve" "b" "I") (by decide +kernel)) (fun _ h9 => h9) rfl dX0_cubic_16 ?_
  refine lv_iadd hx hb dX0_cubic_19 ?_
  refine lv_aload_n hx hb dX0_cubic_20 rfl (lv_at hl 0 rfl) ?_
  refine va_get (D := (dC, dI)) (ci := 0) (v := .int t_p) (C := RX0) (T := TX0) (N := 12) hx hb hts (by decide +kernel) hown hK hP 0 rfl rfl 0 (by decide) (hts (.fieldLink RX0 9 "PointRings$Curve" "p" "I") (by decide +kernel)) (fun _ h9 => h9) rfl dX0_cubic_21 ?_
  have hn3 : ¬ t_p = 0 := fun hz => absurd ((if_pos hz).symm.trans h) (fun hh => nomatch hh)
  replace h := (if_neg hn3).symm.trans h
  refine lv_irem hx hb dX0_cubic_24 hn3 ?_
  refine lv_topi (fun v4 ev4 => ?_)
  replace h := mi_use ev4 h
  have hv : v4 = rr := Option.some.inj h
  exact W.iret (v := v4) hx hb hr (fun t ht hW => ⟨_, rfl, hv, ht⟩) (fun q hq => absurd hq List.not_mem_nil) dX0_cubic_25
def mX0_leastMapTo_b15 (N : Nat) (t_p : Int32) (t_a : Int32) (p0_a : Int32) (t_b : Int32) (p0_b : Int32) (st : Int32) : Option ((Int32) ⊕ ((Int32) ⊕ (Int32))) :=
  match st with
  | x2 => if t_p ≤ x2 then some (.inr (.inl x2)) else if t_p = 0 then none else mi_let (mi_rem (x2 * x2) t_p) (fun v6 => if t_p = 0 then none else mi_let (mi_rem (v6 * v6) t_p) (fun v8 => if t_p = 0 then none else mi_let (mi_rem (t_a * v8) t_p) (fun v10 => if v10 = p0_a then if t_p = 0 then none else mi_let (mi_rem (v8 * v6) t_p) (fun v14 => if t_p = 0 then none else mi_let (mi_rem (t_b * v14) t_p) (fun v16 => if v16 = p0_b then some (.inr (.inr x2)) else mi_let (x2 + 1) (fun v18 => some (.inl v18)))) else mi_let (x2 + 1) (fun v12 => some (.inl v12)))))
def mX0_leastMapTo (N : Nat) (t_p : Int32) (t_a : Int32) (t_b : Int32) (p0_p : Int32) (p0_a : Int32) (p0_b : Int32) : Option (Int32) := if p0_p = t_p then (mi_run (mX0_leastMapTo_b15 N t_p t_a p0_a t_b p0_b) N 1).bind (fun o19 => match o19 with | .inl y3 => some (-1) | .inr r20 => some r20) else some (-1)
abbrev rmX0_leastMapTo : Room := { frames := 0, cells := 0, slots := 0, locals := 0 }
set_option maxHeartbeats 4000000 in
set_option maxRecDepth 100000 in
theorem ctX0_leastMapTo (l : Launch) (N : Nat) (dC : Nat → ClassId) (dI : Nat → Nat → Nat) (h0 : Nat) (h1 : Nat) (t_p : Int32) (t_a : Int32) (t_b : Int32) (t_from : Int32) (t_kernelPoint : Int32) (t_kernelOrder : Int32) (t_points : Int32) (t_inner : Int32) (t_outer : Int32) (t_makersFound : Int32) (t_first : Int32) (t_second : Int32) (p0_p : Int32) (p0_a : Int32) (p0_b : Int32) (p0_from : Int32) (p0_kernelPoint : Int32) (p0_kernelOrder : Int32) (p0_points : Int32) (p0_inner : Int32) (p0_outer : Int32) (p0_makersFound : Int32) (p0_first : Int32) (p0_second : Int32) (rr : Int32) (h : mX0_leastMapTo N t_p t_a t_b p0_p p0_a p0_b = some rr) : Met l yX0_leastMapTo wsX0_leastMapTo rmX0_leastMapTo (va_Pc [.ref h0, .ref h1] (fun U => va_P (dC, dI) vwCl [(h0, .inr (0, [.int t_p, .int t_a, .int t_b, .int t_from, .int t_kernelPoint, .int t_kernelOrder, .int t_points, .int t_inner, .int t_outer, .int t_makersFound, .int t_first, .int t_second])), (h1, .inr (0, [.int p0_p, .int p0_a, .int p0_b, .int p0_from, .int p0_kernelPoint, .int p0_kernelOrder, .int p0_points, .int p0_inner, .int p0_outer, .int p0_makersFound, .int p0_first, .int p0_second]))] U.heap ∧ va_K (dC, dI) vwCl [] U ∧ nw_all U)) (vp_Si (fun r => r = rr)) 0 0 (fun _ => False) := by
  refine Met.ofW (cc := cX0_leastMapTo) (maxL := 5) (ret := (some .int)) (by decide) rfl ?_
  intro p e s m args below meth c s₁ B hml hv
  obtain ⟨rfl, hP, hK, hN⟩ := hv
  have hx := B.exec
  have hb := B.bytes
  have hr := B.returns
  have hts := atoms_spec (ws := wsX0_leastMapTo) B.pre
  have hown : s.vm.findClass RX0 = some m.cls := findClass_of_methodNamed B.named
  have hlocks := B.notSynchronized
  have hl := lv_entry ([.ref h0, .ref h1]) (n := 5) (Nat.le_of_ble_eq_true rfl)
  rw [lg_entry_eq]
  generalize (lg_sl ([.ref h0, .ref h1]) ++ List.replicate (5 - (lg_sl ([.ref h0, .ref h1])).length) Slot.unset).toArray = ls at hl ⊢
  have hl : lv_has ls 5 [(0, .ref h0), (1, .ref h1)] := hl
  dsimp only [mX0_leastMapTo] at h
  refine lv_aload_n hx hb dX0_leastMapTo_0 rfl (lv_at hl 1 rfl) ?_
  refine va_get (D := (dC, dI)) (ci := 0) (v := .int p0_p) (C := RX0) (T := TX0) (N := 12) hx hb hts (by decide +kernel) hown hK hP 1 rfl rfl 0 (by decide) (hts (.fieldLink RX0 9 "PointRings$Curve" "p" "I") (by decide +kernel)) (fun _ h9 => h9) rfl dX0_leastMapTo_1 ?_
  refine lv_aload_n hx hb dX0_leastMapTo_4 rfl (lv_at hl 0 rfl) ?_
  refine va_get (D := (dC, dI)) (ci := 0) (v := .int t_p) (C := RX0) (T := TX0) (N := 12) hx hb hts (by decide +kernel) hown hK hP 0 rfl rfl 0 (by decide) (hts (.fieldLink RX0 9 "PointRings$Curve" "p" "I") (by decide +kernel)) (fun _ h9 => h9) rfl dX0_leastMapTo_5 ?_
  refine lv_icmp_eq (tgt := 13) hx hb dX0_leastMapTo_8 (by decide) (fun c1 => ?_) (fun c1 => ?_)
  · replace h := (if_pos c1).symm.trans h
    refine lv_iconst (v := 1) hx hb dX0_leastMapTo_13 (by decide) ?_
    refine lv_istore_n (lv' := [(2, .int 1), (0, .ref h0), (1, .ref h1)]) hx hb dX0_leastMapTo_14 rfl hl (by decide) rfl (fun ls hl => ?_)
    have L15 : ∀ (n : Nat) (x2 : Int32) (o : (Int32) ⊕ (Int32)), mi_run (mX0_leastMapTo_b15 N t_p t_a p0_a t_b p0_b) n x2 = some o → (∀ (y3 : Int32), o = .inl y3 → ∀ ls, lv_has ls 5 [(2, .int y3), (0, .ref h0), (1, .ref h1)] → W p l e (headSpec wsX0_leastMapTo rmX0_leastMapTo).room s m (([.ref h0, .ref h1] : List Value).toArray) below meth c s.heap [] 0 0 (MQ below (vp_Si (fun r => r = rr)) (([.ref h0, .ref h1] : List Value).toArray) s 0 0 (fun _ => False)) (F0 m 95 ls [])) → (∀ v : Int32, o = .inr v → v = rr) → ∀ ls, lv_has ls 5 [(2, .int x2), (0, .ref h0), (1, .ref h1)] → W p l e (headSpec wsX0_leastMapTo rmX0_leastMapTo).room s m (([.ref h0, .ref h1] : List Value).toArray) below meth c s.heap [] 0 0 (MQ below (vp_Si (fun r => r = rr)) (([.ref h0, .ref h1] : List Value).toArray) s 0 0 (fun _ => False)) (F0 m 15 ls []) := by
      intro n
      induction n with
      | zero => intro x2 o h; exact absurd h (mi_run_0 _ _ _)
      | succ n ih =>
        intro x2 o h hkE hkR ls hl
        obtain ⟨w, h, hA, hB⟩ := mi_run_s h
        dsimp only [mX0_leastMapTo_b15] at h
        refine lv_iload_n hx hb dX0_leastMapTo_15 rfl (lv_at hl 0 rfl) ?_
        refine lv_aload_n hx hb dX0_leastMapTo_16 rfl (lv_at hl 1 rfl) ?_
        refine va_get (D := (dC, dI)) (ci := 0) (v := .int t_p) (C := RX0) (T := TX0) (N := 12) hx hb hts (by decide +kernel) hown hK hP 0 rfl rfl 0 (by decide) (hts (.fieldLink RX0 9 "PointRings$Curve" "p" "I") (by decide +kernel)) (fun _ h9 => h9) rfl dX0_leastMapTo_17 ?_
        refine lv_icmp_ge (tgt := 95) hx hb dX0_leastMapTo_20 (by decide) (fun c4 => ?_) (fun c4 => ?_)
        · replace h := (if_pos c4).symm.trans h
          exact hkE _ (hB _ (Option.some.inj h).symm) ls (lv_sub hl [0, 1, 2] rfl)
        · replace h := (if_neg c4).symm.trans h
          refine lv_iload_n hx hb dX0_leastMapTo_23 rfl (lv_at hl 0 rfl) ?_
          refine lv_iload_n hx hb dX0_leastMapTo_24 rfl (lv_at hl 0 rfl) ?_
          refine lv_imul hx hb dX0_leastMapTo_25 ?_
          refine lv_aload_n hx hb dX0_leastMapTo_26 rfl (lv_at hl 1 rfl) ?_
          refine va_get (D := (dC, dI)) (ci := 0) (v := .int t_p) (C := RX0) (T := TX0) (N := 12) hx hb hts (by decide +kernel) hown hK hP 0 rfl rfl 0 (by decide) (hts (.fieldLink RX0 9 "PointRings$Curve" "p" "I") (by decide +kernel)) (fun _ h9 => h9) rfl dX0_leastMapTo_27 ?_
          have hn5 : ¬ t_p = 0 := fun hz => absurd ((if_pos hz).symm.trans h) (fun hh => nomatch hh)
          replace h := (if_neg hn5).symm.trans h
          refine lv_irem hx hb dX0_leastMapTo_30 hn5 ?_
          refine lv_topi (fun v6 ev6 => ?_)
          replace h := mi_use ev6 h
          refine lv_istore_n (lv' := [(3, .int v6), (2, .int x2), (0, .ref h0), (1, .ref h1)]) hx hb dX0_leastMapTo_31 rfl hl (by decide) rfl (fun ls hl => ?_)
          refine lv_iload_n hx hb dX0_leastMapTo_32 rfl (lv_at hl 0 rfl) ?_
          refine lv_iload_n hx hb dX0_leastMapTo_33 rfl (lv_at hl 0 rfl) ?_
          refine lv_imul hx hb dX0_leastMapTo_34 ?_
          refine lv_aload_n hx hb dX0_leastMapTo_35 rfl (lv_at hl 2 rfl) ?_
          refine va_get (D := (dC, dI)) (ci := 0) (v := .int t_p) (C := RX0) (T := TX0) (N := 12) hx hb hts (by decide +kernel) hown hK hP 0 rfl rfl 0 (by decide) (hts (.fieldLink RX0 9 "PointRings$Curve" "p" "I") (by decide +kernel)) (fun _ h9 => h9) rfl dX0_leastMapTo_36 ?_
          have hn7 : ¬ t_p = 0 := fun hz => absurd ((if_pos hz).symm.trans h) (fun hh => nomatch hh)
          replace h := (if_neg hn7).symm.trans h
          refine lv_irem hx hb dX0_leastMapTo_39 hn7 ?_
          refine lv_topi (fun v8 ev8 => ?_)
          replace h := mi_use ev8 h
          refine lv_istore (lv' := [(4, .int v8), (3, .int v6), (2, .int x2), (0, .ref h0), (1, .ref h1)]) hx hb dX0_leastMapTo_40 hl (by decide) rfl (fun ls hl => ?_)
          refine lv_aload_n hx hb dX0_leastMapTo_42 rfl (lv_at hl 3 rfl) ?_
          refine va_get (D := (dC, dI)) (ci := 0) (v := .int t_a) (C := RX0) (T := TX0) (N := 12) hx hb hts (by decide +kernel) hown hK hP 0 rfl rfl 1 (by decide) (hts (.fieldLink RX0 15 "PointRings$Curve" "a" "I") (by decide +kernel)) (fun _ h9 => h9) rfl dX0_leastMapTo_43 ?_
          refine lv_iload hx hb dX0_leastMapTo_46 (lv_at hl 0 rfl) ?_
          refine lv_imul hx hb dX0_leastMapTo_48 ?_
          refine lv_aload_n hx hb dX0_leastMapTo_49 rfl (lv_at hl 3 rfl) ?_
          refine va_get (D := (dC, dI)) (ci := 0) (v := .int t_p) (C := RX0) (T := TX0) (N := 12) hx hb hts (by decide +kernel) hown hK hP 0 rfl rfl 0 (by decide) (hts (.fieldLink RX0 9 "PointRings$Curve" "p" "I") (by decide +kernel)) (fun _ h9 => h9) rfl dX0_leastMapTo_50 ?_
          have hn9 : ¬ t_p = 0 := fun hz => absurd ((if_pos hz).symm.trans h) (fun hh => nomatch hh)
          replace h := (if_neg hn9).symm.trans h
          refine lv_irem hx hb dX0_leastMapTo_53 hn9 ?_
          refine lv_topi (fun v10 ev10 => ?_)
          replace h := mi_use ev10 h
          refine lv_aload_n hx hb dX0_leastMapTo_54 rfl (lv_at hl 4 rfl) ?_
          refine va_get (D := (dC, dI)) (ci := 0) (v := .int p0_a) (C := RX0) (T := TX0) (N := 12) hx hb hts (by decide +kernel) hown hK hP 1 rfl rfl 1 (by decide) (hts (.fieldLink RX0 15 "PointRings$Curve" "a" "I") (by decide +kernel)) (fun _ h9 => h9) rfl dX0_leastMapTo_55 ?_
          refine lv_icmp_ne (tgt := 89) hx hb dX0_leastMapTo_58 (by decide) (fun c11 => ?_) (fun c11 => ?_)
          · replace h := (if_neg c11).symm.trans h
            obtain ⟨v12, ev12⟩ : ∃ z : Int32, z = x2 + 1 := ⟨_, rfl⟩
            refine lv_iinc (v := v12) (lv' := [(2, .int v12), (4, .int v8), (3, .int v6), (0, .ref h0), (1, .ref h1)]) hx hb dX0_leastMapTo_89 hl (k := 2) rfl (by rw [ev12]; rfl) (by decide) rfl (fun ls hl => ?_)
            replace h := mi_use ev12 h
            refine lv_goto (tgt := 15) hx hb dX0_leastMapTo_92 (by decide) ?_
            exact ih _ _ (hA _ (Option.some.inj h).symm) hkE hkR ls (lv_sub hl [0, 3, 4] rfl)
          · replace h := (if_pos c11).symm.trans h
            refine lv_aload_n hx hb dX0_leastMapTo_61 rfl (lv_at hl 3 rfl) ?_
            refine va_get (D := (dC, dI)) (ci := 0) (v := .int t_b) (C := RX0) (T := TX0) (N := 12) hx hb hts (by decide +kernel) hown hK hP 0 rfl rfl 2 (by decide) (hts (.fieldLink RX0 18 "PointRings$Curve" "b" "I") (by decide +kernel)) (fun _ h9 => h9) rfl dX0_leastMapTo_62 ?_
            refine lv_iload hx hb dX0_leastMapTo_65 (lv_at hl 0 rfl) ?_
            refine lv_iload_n hx hb dX0_leastMapTo_67 rfl (lv_at hl 1 rfl) ?_
            refine lv_imul hx hb dX0_leastMapTo_68 ?_
            refine lv_aload_n hx hb dX0_leastMapTo_69 rfl (lv_at hl 3 rfl) ?_
            refine va_get (D := (dC, dI)) (ci := 0) (v := .int t_p) (C := RX0) (T := TX0) (N := 12) hx hb hts (by decide +kernel) hown hK hP 0 rfl rfl 0 (by decide) (hts (.fieldLink RX0 9 "PointRings$Curve" "p" "I") (by decide +kernel)) (fun _ h9 => h9) rfl dX0_leastMapTo_70 ?_
            have hn13 : ¬ t_p = 0 := fun hz => absurd ((if_pos hz).symm.trans h) (fun hh => nomatch hh)
            replace h := (if_neg hn13).symm.trans h
            refine lv_irem hx hb dX0_leastMapTo_73 hn13 ?_
            refine lv_topi (fun v14 ev14 => ?_)
            replace h := mi_use ev14 h
            refine lv_imul hx hb dX0_leastMapTo_74 ?_
            refine lv_aload_n hx hb dX0_leastMapTo_75 rfl (lv_at hl 3 rfl) ?_
            refine va_get (D := (dC, dI)) (ci := 0) (v := .int t_p) (C := RX0) (T := TX0) (N := 12) hx hb hts (by decide +kernel) hown hK hP 0 rfl rfl 0 (by decide) (hts (.fieldLink RX0 9 "PointRings$Curve" "p" "I") (by decide +kernel)) (fun _ h9 => h9) rfl dX0_leastMapTo_76 ?_
            have hn15 : ¬ t_p = 0 := fun hz => absurd ((if_pos hz).symm.trans h) (fun hh => nomatch hh)
            replace h := (if_neg hn15).symm.trans h
            refine lv_irem hx hb dX0_leastMapTo_79 hn15 ?_
            refine lv_topi (fun v16 ev16 => ?_)
            replace h := mi_use ev16 h
            refine lv_aload_n hx hb dX0_leastMapTo_80 rfl (lv_at hl 4 rfl) ?_
            refine va_get (D := (dC, dI)) (ci := 0) (v := .int p0_b) (C := RX0) (T := TX0) (N := 12) hx hb hts (by decide +kernel) hown hK hP 1 rfl rfl 2 (by decide) (hts (.fieldLink RX0 18 "PointRings$Curve" "b" "I") (by decide +kernel)) (fun _ h9 => h9) rfl dX0_leastMapTo_81 ?_
            refine lv_icmp_ne (tgt := 89) hx hb dX0_leastMapTo_84 (by decide) (fun c17 => ?_) (fun c17 => ?_)
            · replace h := (if_neg c17).symm.trans h
              obtain ⟨v18, ev18⟩ : ∃ z : Int32, z = x2 + 1 := ⟨_, rfl⟩
              refine lv_iinc (v := v18) (lv' := [(2, .int v18), (4, .int v8), (3, .int v6), (0, .ref h0), (1, .ref h1)]) hx hb dX0_leastMapTo_89 hl (k := 2) rfl (by rw [ev18]; rfl) (by decide) rfl (fun ls hl => ?_)
              replace h := mi_use ev18 h
              refine lv_goto (tgt := 15) hx hb dX0_leastMapTo_92 (by decide) ?_
              exact ih _ _ (hA _ (Option.some.inj h).symm) hkE hkR ls (lv_sub hl [0, 3, 4] rfl)
            · replace h := (if_pos c17).symm.trans h
              refine lv_iload_n hx hb dX0_leastMapTo_87 rfl (lv_at hl 2 rfl) ?_
              have hv : x2 = rr := hkR _ (hB _ (Option.some.inj h).symm)
              exact W.iret (v := x2) hx hb hr (fun t ht hW => ⟨_, rfl, hv, ht⟩) (fun q hq => absurd hq List.not_mem_nil) dX0_leastMapTo_88
    obtain ⟨o19, ho19, h⟩ := Option.bind_eq_some_iff.mp h
    refine L15 N _ o19 ho19 ?_ ?_ ls (lv_sub hl [0, 1, 2] rfl)
    · intro y3 eo ls hl
      subst eo
      try dsimp only at h
      refine lv_iconst (v := (-1)) hx hb dX0_leastMapTo_95 (by decide) ?_
      have hv : (-1) = rr := Option.some.inj h
      exact W.iret (v := (-1)) hx hb hr (fun t ht hW => ⟨_, rfl, hv, ht⟩) (fun q hq => absurd hq List.not_mem_nil) dX0_leastMapTo_96
    · intro r20 eo
      subst eo
      try dsimp only at h
      exact Option.some.inj h
  · replace h := (if_neg c1).symm.trans h
    refine lv_iconst (v := (-1)) hx hb dX0_leastMapTo_11 (by decide) ?_
    have hv : (-1) = rr := Option.some.inj h
    exact W.iret (v := (-1)) hx hb hr (fun t ht hW => ⟨_, rfl, hv, ht⟩) (fun q hq => absurd hq List.not_mem_nil) dX0_leastMapTo_12
def mX0_opposite (N : Nat) (t_p : Int32) (a0 : Int32) : Option (Int32) := if a0 = (-1) then some a0 else (mX5_yOf N a0).bind (fun r2 => if r2 = 0 then some a0 else (mX5_xOf N a0).bind (fun r4 => (mX5_yOf N a0).bind (fun r5 => (mX5_pair N r4 (t_p - r5)).bind (fun r6 => some r6))))
abbrev rmX0_opposite : Room := { frames := 1, cells := 0, slots := 0, locals := 21 }
set_option maxHeartbeats 4000000 in
set_option maxRecDepth 100000 in
theorem ctX0_opposite (l : Launch) (N : Nat) (dC : Nat → ClassId) (dI : Nat → Nat → Nat) (h0 : Nat) (t_p : Int32) (t_a : Int32) (t_b : Int32) (t_from : Int32) (t_kernelPoint : Int32) (t_kernelOrder : Int32) (t_points : Int32) (t_inner : Int32) (t_outer : Int32) (t_makersFound : Int32) (t_first : Int32) (t_second : Int32) (a0 : Int32) (rr : Int32) (h : mX0_opposite N t_p a0 = some rr) : Met l yX0_opposite wsX0_opposite rmX0_opposite (va_Pc [.ref h0, .int a0] (fun U => va_P (dC, dI) vwCl [(h0, .inr (0, [.int t_p, .int t_a, .int t_b, .int t_from, .int t_kernelPoint, .int t_kernelOrder, .int t_points, .int t_inner, .int t_outer, .int t_makersFound, .int t_first, .int t_second]))] U.heap ∧ va_K (dC, dI) vwCl [] U ∧ nw_all U)) (vp_Si (fun r => r = rr)) 0 0 (fun _ => False) := by
  refine Met.ofW (cc := cX0_opposite) (maxL := 2) (ret := (some .int)) (by decide) rfl ?_
  intro p e s m args below meth c s₁ B hml hv
  obtain ⟨rfl, hP, hK, hN⟩ := hv
  have hx := B.exec
  have hb := B.bytes
  have hr := B.returns
  have hts := atoms_spec (ws := wsX0_opposite) B.pre
  have hown : s.vm.findClass RX0 = some m.cls := findClass_of_methodNamed B.named
  have hlocks := B.notSynchronized
  have hl := lv_entry ([.ref h0, .int a0]) (n := 2) (Nat.le_of_ble_eq_true rfl)
  rw [lg_entry_eq]
  generalize (lg_sl ([.ref h0, .int a0]) ++ List.replicate (2 - (lg_sl ([.ref h0, .int a0])).length) Slot.unset).toArray = ls at hl ⊢
  have hl : lv_has ls 2 [(0, .ref h0), (1, .int a0)] := hl
  dsimp only [mX0_opposite] at h
  refine lv_iload_n hx hb dX0_opposite_0 rfl (lv_at hl 1 rfl) ?_
  refine lv_iconst (v := (-1)) hx hb dX0_opposite_1 (by decide) ?_
  refine lv_icmp_eq (tgt := 12) hx hb dX0_opposite_2 (by decide) (fun c1 => ?_) (fun c1 => ?_)
  · replace h := (if_pos c1).symm.trans h
    refine lv_iload_n hx hb dX0_opposite_12 rfl (lv_at hl 1 rfl) ?_
    have hv : a0 = rr := Option.some.inj h
    exact W.iret (v := a0) hx hb hr (fun t ht hW => ⟨_, rfl, hv, ht⟩) (fun q hq => absurd hq List.not_mem_nil) dX0_opposite_13
  · replace h := (if_neg c1).symm.trans h
    refine lv_iload_n hx hb dX0_opposite_5 rfl (lv_at hl 1 rfl) ?_
    obtain ⟨r2, hr2, h⟩ := Option.bind_eq_some_iff.mp h
    refine vp_callSi (mi_cr (va_runSN (As := [.int a0]) (rest := []) ⟨hx, hb, hml, hown, hts⟩ (ctX5_yOf l N  a0 r2 hr2) ⟨va_cnB 1 hts gX0_opposite_X5_yOf_n31 rfl rfl rfl (nw_X0_31 hN) (hts (.initialized RX5) (by decide +kernel)) (by decide +kernel) ⟨Nat.le_of_ble_eq_true rfl, Nat.le_of_ble_eq_true rfl⟩, hts (.static yX5_yOf) (by decide +kernel), trivial⟩ preEq rfl rfl hl.1 rfl (lv_room (Nat.le_of_ble_eq_true rfl)) dX0_opposite_6 ⟨Nat.le_of_ble_eq_true rfl, Nat.le_of_ble_eq_true rfl⟩)) (fun q9 eq9 => ?_)
    subst q9
    refine lv_if_ne (tgt := 14) hx hb dX0_opposite_9 (by decide) (fun c3 => ?_) (fun c3 => ?_)
    · replace h := (if_neg c3).symm.trans h
      refine lv_iload_n hx hb dX0_opposite_14 rfl (lv_at hl 1 rfl) ?_
      obtain ⟨r4, hr4, h⟩ := Option.bind_eq_some_iff.mp h
      refine vp_callSi (mi_cr (va_runSN (As := [.int a0]) (rest := []) ⟨hx, hb, hml, hown, hts⟩ (ctX5_xOf l N  a0 r4 hr4) ⟨va_cnB 1 hts gX0_opposite_X5_xOf_n27 rfl rfl rfl (nw_X0_27 hN) (hts (.initialized RX5) (by decide +kernel)) (by decide +kernel) ⟨Nat.le_of_ble_eq_true rfl, Nat.le_of_ble_eq_true rfl⟩, hts (.static yX5_xOf) (by decide +kernel), trivial⟩ preEq rfl rfl hl.1 rfl (lv_room (Nat.le_of_ble_eq_true rfl)) dX0_opposite_15 ⟨Nat.le_of_ble_eq_true rfl, Nat.le_of_ble_eq_true rfl⟩)) (fun q9 eq9 => ?_)
      subst q9
      refine lv_aload_n hx hb dX0_opposite_18 rfl (lv_at hl 0 rfl) ?_
      refine va_get (D := (dC, dI)) (ci := 0) (v := .int t_p) (C := RX0) (T := TX0) (N := 12) hx hb hts (by decide +kernel) hown hK hP 0 rfl rfl 0 (by decide) (hts (.fieldLink RX0 9 "PointRings$Curve" "p" "I") (by decide +kernel)) (fun _ h9 => h9) rfl dX0_opposite_19 ?_
      refine lv_iload_n hx hb dX0_opposite_22 rfl (lv_at hl 1 rfl) ?_
      obtain ⟨r5, hr5, h⟩ := Option.bind_eq_some_iff.mp h
      refine vp_callSi (mi_cr (va_runSN (As := [.int a0]) (rest := [.int t_p, .int r4]) ⟨hx, hb, hml, hown, hts⟩ (ctX5_yOf l N  a0 r5 hr5) ⟨va_cnB 1 hts gX0_opposite_X5_yOf_n31 rfl rfl rfl (nw_X0_31 hN) (hts (.initialized RX5) (by decide +kernel)) (by decide +kernel) ⟨Nat.le_of_ble_eq_true rfl, Nat.le_of_ble_eq_true rfl⟩, hts (.static yX5_yOf) (by decide +kernel), trivial⟩ preEq rfl rfl hl.1 rfl (lv_room (Nat.le_of_ble_eq_true rfl)) dX0_opposite_23 ⟨Nat.le_of_ble_eq_true rfl, Nat.le_of_ble_eq_true rfl⟩)) (fun q9 eq9 => ?_)
      subst q9
      refine lv_isub hx hb dX0_opposite_26 ?_
      obtain ⟨r6, hr6, h⟩ := Option.bind_eq_some_iff.mp h
      refine vp_callSi (mi_cr (va_runSN (As := [.int r4, .int (t_p - r5)]) (rest := []) ⟨hx, hb, hml, hown, hts⟩ (ctX5_pair l N  r4 (t_p - r5) r6 hr6) ⟨va_cnB 2 hts gX0_opposite_X5_pair_n60 rfl rfl rfl (nw_X0_60 hN) (hts (.initialized RX5) (by decide +kernel)) (by decide +kernel) ⟨Nat.le_of_ble_eq_true rfl, Nat.le_of_ble_eq_true rfl⟩, hts (.static yX5_pair) (by decide +kernel), trivial⟩ preEq rfl rfl hl.1 rfl (lv_room (Nat.le_of_ble_eq_true rfl)) dX0_opposite_27 ⟨Nat.le_of_ble_eq_true rfl, Nat.le_of_ble_eq_true rfl⟩)) (fun q9 eq9 => ?_)
      subst q9
      have hv : r6 = rr := Option.some.inj h
      exact W.iret (v := r6) hx hb hr (fun t ht hW => ⟨_, rfl, hv, ht⟩) (fun q hq => absurd hq List.not_mem_nil) dX0_opposite_30
    · replace h := (if_pos c3).symm.trans h
      refine lv_iload_n hx hb dX0_opposite_12 rfl (lv_at hl 1 rfl) ?_
      have hv : a0 = rr := Option.some.inj h
      exact W.iret (v := a0) hx hb hr (fun t ht hW => ⟨_, rfl, hv, ht⟩) (fun q hq => absurd hq List.not_mem_nil) dX0_opposite_13
def mX0_holds (N : Nat) (t_p : Int32) (t_a : Int32) (t_b : Int32) (a0 : Int32) : Option (Int32) := if a0 = (-1) then some 1 else (mX5_xOf N a0).bind (fun r2 => (mX5_yOf N a0).bind (fun r3 => (mX4_isBelow N r2 t_p).bind (fun r4 => if r4 = 0 then some 0 else if t_p ≤ r3 then some 0 else if t_p = 0 then none else mi_let (mi_rem (r3 * r3) t_p) (fun v8 => (mX0_cubic N t_p t_a t_b r2).bind (fun r9 => if v8 = r9 then some 1 else some 0)))))
abbrev rmX0_holds : Room := { frames := 1, cells := 0, slots := 0, locals := 21 }
set_option maxHeartbeats 4000000 in
set_option maxRecDepth 100000 in
theorem ctX0_holds (l : Launch) (N : Nat) (dC : Nat → ClassId) (dI : Nat → Nat → Nat) (h0 : Nat) (t_p : Int32) (t_a : Int32) (t_b : Int32) (t_from : Int32) (t_kernelPoint : Int32) (t_kernelOrder : Int32) (t_points : Int32) (t_inner : Int32) (t_outer : Int32) (t_makersFound : Int32) (t_first : Int32) (t_second : Int32) (a0 : Int32) (rr : Int32) (h : mX0_holds N t_p t_a t_b a0 = some rr) : Met l yX0_holds wsX0_holds rmX0_holds (va_Pc [.ref h0, .int a0] (fun U => va_P (dC, dI) vwCl [(h0, .inr (0, [.int t_p, .int t_a, .int t_b, .int t_from, .int t_kernelPoint, .int t_kernelOrder, .int t_points, .int t_inner, .int t_outer, .int t_makersFound, .int t_first, .int t_second]))] U.heap ∧ va_K (dC, dI) vwCl [] U ∧ nw_all U)) (vp_Si (fun r => r = rr)) 0 0 (fun _ => False) := by
  refine Met.ofW (cc := cX0_holds) (maxL := 4) (ret := (some .boolean)) (by decide) rfl ?_
  intro p e s m args below meth c s₁ B hml hv
  obtain ⟨rfl, hP, hK, hN⟩ := hv
  have hx := B.exec
  have hb := B.bytes
  have hr := B.returns
  have hts := atoms_spec (ws := wsX0_holds) B.pre
  have hown : s.vm.findClass RX0 = some m.cls := findClass_of_methodNamed B.named
  have hlocks := B.notSynchronized
  have hl := lv_entry ([.ref h0, .int a0]) (n := 4) (Nat.le_of_ble_eq_true rfl)
  rw [lg_entry_eq]
  generalize (lg_sl ([.ref h0, .int a0]) ++ List.replicate (4 - (lg_sl ([.ref h0, .int a0])).length) Slot.unset).toArray = ls at hl ⊢
  have hl : lv_has ls 4 [(0, .ref h0), (1, .int a0)] := hl
  dsimp only [mX0_holds] at h
  refine lv_iload_n hx hb dX0_holds_0 rfl (lv_at hl 1 rfl) ?_
  refine lv_iconst (v := (-1)) hx hb dX0_holds_1 (by decide) ?_
  refine lv_icmp_ne (tgt := 7) hx hb dX0_holds_2 (by decide) (fun c1 => ?_) (fun c1 => ?_)
  · replace h := (if_neg c1).symm.trans h
    refine lv_iload_n hx hb dX0_holds_7 rfl (lv_at hl 1 rfl) ?_
    obtain ⟨r2, hr2, h⟩ := Option.bind_eq_some_iff.mp h
    refine vp_callSi (mi_cr (va_runSN (As := [.int a0]) (rest := []) ⟨hx, hb, hml, hown, hts⟩ (ctX5_xOf l N  a0 r2 hr2) ⟨va_cnB 1 hts gX0_holds_X5_xOf_n27 rfl rfl rfl (nw_X0_27 hN) (hts (.initialized RX5) (by decide +kernel)) (by decide +kernel) ⟨Nat.le_of_ble_eq_true rfl, Nat.le_of_ble_eq_true rfl⟩, hts (.static yX5_xOf) (by decide +kernel), trivial⟩ preEq rfl rfl hl.1 rfl (lv_room (Nat.le_of_ble_eq_true rfl)) dX0_holds_8 ⟨Nat.le_of_ble_eq_true rfl, Nat.le_of_ble_eq_true rfl⟩)) (fun q9 eq9 => ?_)
    subst q9
    refine lv_istore_n (lv' := [(2, .int r2), (0, .ref h0), (1, .int a0)]) hx hb dX0_holds_11 rfl hl (by decide) rfl (fun ls hl => ?_)
    refine lv_iload_n hx hb dX0_holds_12 rfl (lv_at hl 2 rfl) ?_
    obtain ⟨r3, hr3, h⟩ := Option.bind_eq_some_iff.mp h
    refine vp_callSi (mi_cr (va_runSN (As := [.int a0]) (rest := []) ⟨hx, hb, hml, hown, hts⟩ (ctX5_yOf l N  a0 r3 hr3) ⟨va_cnB 1 hts gX0_holds_X5_yOf_n31 rfl rfl rfl (nw_X0_31 hN) (hts (.initialized RX5) (by decide +kernel)) (by decide +kernel) ⟨Nat.le_of_ble_eq_true rfl, Nat.le_of_ble_eq_true rfl⟩, hts (.static yX5_yOf) (by decide +kernel), trivial⟩ preEq rfl rfl hl.1 rfl (lv_room (Nat.le_of_ble_eq_true rfl)) dX0_holds_13 ⟨Nat.le_of_ble_eq_true rfl, Nat.le_of_ble_eq_true rfl⟩)) (fun q9 eq9 => ?_)
    subst q9
    refine lv_istore_n (lv' := [(3, .int r3), (2, .int r2), (0, .ref h0), (1, .int a0)]) hx hb dX0_holds_16 rfl hl (by decide) rfl (fun ls hl => ?_)
    refine lv_iload_n hx hb dX0_holds_17 rfl (lv_at hl 1 rfl) ?_
    refine lv_aload_n hx hb dX0_holds_18 rfl (lv_at hl 2 rfl) ?_
    refine va_get (D := (dC, dI)) (ci := 0) (v := .int t_p) (C := RX0) (T := TX0) (N := 12) hx hb hts (by decide +kernel) hown hK hP 0 rfl rfl 0 (by decide) (hts (.fieldLink RX0 9 "PointRings$Curve" "p" "I") (by decide +kernel)) (fun _ h9 => h9) rfl dX0_holds_19 ?_
    obtain ⟨r4, hr4, h⟩ := Option.bind_eq_some_iff.mp h
    refine vp_callSi (W.runS (As := [.int r2, .int t_p]) (rest := []) ⟨hx, hb, hml, hown, hts⟩ (ctX4_isBelow l N  r2 t_p r4 hr4) (va_cwS 2 hts gX0_holds_X4_isBelow rfl rfl rfl (by decide +kernel) ⟨Nat.le_of_ble_eq_true rfl, Nat.le_of_ble_eq_true rfl⟩) preEq rfl rfl hl.1 rfl (lv_room (Nat.le_of_ble_eq_true rfl)) dX0_holds_22 ⟨Nat.le_of_ble_eq_true rfl, Nat.le_of_ble_eq_true rfl⟩) (fun q9 eq9 => ?_)
    subst q9
    refine lv_if_eq (tgt := 56) hx hb dX0_holds_25 (by decide) (fun c5 => ?_) (fun c5 => ?_)
    · replace h := (if_pos c5).symm.trans h
      refine lv_iconst (v := 0) hx hb dX0_holds_56 (by decide) ?_
      have hv : 0 = rr := Option.some.inj h
      exact W.zret (v := 0) hx hb hr (by decide) (fun t ht hW => ⟨_, rfl, hv, ht⟩) (fun q hq => absurd hq List.not_mem_nil) dX0_holds_57
    · replace h := (if_neg c5).symm.trans h
      refine lv_iload_n hx hb dX0_holds_28 rfl (lv_at hl 0 rfl) ?_
      refine lv_aload_n hx hb dX0_holds_29 rfl (lv_at hl 2 rfl) ?_
      refine va_get (D := (dC, dI)) (ci := 0) (v := .int t_p) (C := RX0) (T := TX0) (N := 12) hx hb hts (by decide +kernel) hown hK hP 0 rfl rfl 0 (by decide) (hts (.fieldLink RX0 9 "PointRings$Curve" "p" "I") (by decide +kernel)) (fun _ h9 => h9) rfl dX0_holds_30 ?_
      refine lv_icmp_ge (tgt := 56) hx hb dX0_holds_33 (by decide) (fun c6 => ?_) (fun c6 => ?_)
      · replace h := (if_pos c6).symm.trans h
        refine lv_iconst (v := 0) hx hb dX0_holds_56 (by decide) ?_
        have hv : 0 = rr := Option.some.inj h
        exact W.zret (v := 0) hx hb hr (by decide) (fun t ht hW => ⟨_, rfl, hv, ht⟩) (fun q hq => absurd hq List.not_mem_nil) dX0_holds_57
      · replace h := (if_neg c6).symm.trans h
        refine lv_iload_n hx hb dX0_holds_36 rfl (lv_at hl 0 rfl) ?_
        refine lv_iload_n hx hb dX0_holds_37 rfl (lv_at hl 0 rfl) ?_
        refine lv_imul hx hb dX0_holds_38 ?_
        refine lv_aload_n hx hb dX0_holds_39 rfl (lv_at hl 2 rfl) ?_
        refine va_get (D := (dC, dI)) (ci := 0) (v := .int t_p) (C := RX0) (T := TX0) (N := 12) hx hb hts (by decide +kernel) hown hK hP 0 rfl rfl 0 (by decide) (hts (.fieldLink RX0 9 "PointRings$Curve" "p" "I") (by decide +kernel)) (fun _ h9 => h9) rfl dX0_holds_40 ?_
        have hn7 : ¬ t_p = 0 := fun hz => absurd ((if_pos hz).symm.trans h) (fun hh => nomatch hh)
        replace h := (if_neg hn7).symm.trans h
        refine lv_irem hx hb dX0_holds_43 hn7 ?_
        refine lv_topi (fun v8 ev8 => ?_)
        replace h := mi_use ev8 h
        refine lv_aload_n hx hb dX0_holds_44 rfl (lv_at hl 2 rfl) ?_
        refine lv_iload_n hx hb dX0_holds_45 rfl (lv_at hl 1 rfl) ?_
        obtain ⟨r9, hr9, h⟩ := Option.bind_eq_some_iff.mp h
        have hPc := hP.sub (ws' := [(h0, .inr (0, [.int t_p, .int t_a, .int t_b, .int t_from, .int t_kernelPoint, .int t_kernelOrder, .int t_points, .int t_inner, .int t_outer, .int t_makersFound, .int t_first, .int t_second]))]) [0] rfl
        have hKc := hK.sub (tys' := []) [] rfl
        refine vp_callSi (W.runV (As := [.int r2]) (rest := [.int v8]) ⟨hx, hb, hml, hown, hts⟩ (ctX0_cubic l N dC dI  h0 t_p t_a t_b t_from t_kernelPoint t_kernelOrder t_points t_inner t_outer t_makersFound t_first t_second r2 r9 hr9) (cwV 1 hts gX0_holds_X0_cubic rfl rfl rfl (by decide +kernel) ⟨Nat.le_of_ble_eq_true rfl, Nat.le_of_ble_eq_true rfl⟩) ⟨fun a U g mk q => by obtain ⟨q0, qP, qK, qN⟩ := q; exact ⟨q0, qP, va_K.moved (u := U) (U := U.calling g mk a) (Vm.Alike.refl U.vm) qK, nw_same (u := U) (U := U.calling g mk a) rfl qN⟩, va_recv hKc hPc (ci := 0) (q0 := 0) rfl rfl, fun U hU hW => ⟨rfl, by rw [hU]; exact hPc, va_K.moved hW.alike hKc, nw_warm hW hN⟩⟩ rfl rfl hl.1 rfl (lv_room (Nat.le_of_ble_eq_true rfl)) dX0_holds_46 ⟨Nat.le_of_ble_eq_true rfl, Nat.le_of_ble_eq_true rfl⟩) (fun q9 eq9 => ?_)
        subst q9
        refine lv_icmp_ne (tgt := 56) hx hb dX0_holds_49 (by decide) (fun c10 => ?_) (fun c10 => ?_)
        · replace h := (if_neg c10).symm.trans h
          refine lv_iconst (v := 0) hx hb dX0_holds_56 (by decide) ?_
          have hv : 0 = rr := Option.some.inj h
          exact W.zret (v := 0) hx hb hr (by decide) (fun t ht hW => ⟨_, rfl, hv, ht⟩) (fun q hq => absurd hq List.not_mem_nil) dX0_holds_57
        · replace h := (if_pos c10).symm.trans h
          refine lv_iconst (v := 1) hx hb dX0_holds_52 (by decide) ?_
          refine lv_goto (tgt := 57) hx hb dX0_holds_53 (by decide) ?_
          have hv : 1 = rr := Option.some.inj h
          exact W.zret (v := 1) hx hb hr (by decide) (fun t ht hW => ⟨_, rfl, hv, ht⟩) (fun q hq => absurd hq List.not_mem_nil) dX0_holds_57
  · replace h := (if_pos c1).symm.trans h
    refine lv_iconst (v := 1) hx hb dX0_holds_5 (by decide) ?_
    have hv : 1 = rr := Option.some.inj h
    exact W.zret (v := 1) hx hb hr (by decide) (fun t ht hW => ⟨_, rfl, hv, ht⟩) (fun q hq => absurd hq List.not_mem_nil) dX0_holds_6
def mX0_invariant (N : Nat) (t_p : Int32) (t_a : Int32) (t_b : Int32) : Option (Int32) := if t_p = 0 then none else mi_let (mi_rem (t_a * t_a) t_p) (fun v2 => if t_p = 0 then none else mi_let (mi_rem ((4 * v2) * t_a) t_p) (fun v4 => if t_p = 0 then none else mi_let (mi_rem 1728 t_p) (fun v6 => if t_p = 0 then none else mi_let (mi_rem (v6 * v4) t_p) (fun v8 => (mX4_cubicMark N t_a t_b t_p).bind (fun r9 => (mX4_inverted N r9 t_p).bind (fun r10 => if t_p = 0 then none else mi_let (mi_rem (v8 * r10) t_p) (fun v12 => some v12)))))))
abbrev rmX0_invariant : Room := { frames := 1, cells := 0, slots := 0, locals := 29 }
set_option maxHeartbeats 4000000 in
set_option maxRecDepth 100000 in
theorem ctX0_invariant (l : Launch) (N : Nat) (dC : Nat → ClassId) (dI : Nat → Nat → Nat) (h0 : Nat) (t_p : Int32) (t_a : Int32) (t_b : Int32) (t_from : Int32) (t_kernelPoint : Int32) (t_kernelOrder : Int32) (t_points : Int32) (t_inner : Int32) (t_outer : Int32) (t_makersFound : Int32) (t_first : Int32) (t_second : Int32) (rr : Int32) (h : mX0_invariant N t_p t_a t_b = some rr) : Met l yX0_invariant wsX0_invariant rmX0_invariant (va_Pc [.ref h0] (fun U => va_P (dC, dI) vwCl [(h0, .inr (0, [.int t_p, .int t_a, .int t_b, .int t_from, .int t_kernelPoint, .int t_kernelOrder, .int t_points, .int t_inner, .int t_outer, .int t_makersFound, .int t_first, .int t_second]))] U.heap ∧ va_K (dC, dI) vwCl [] U ∧ nw_all U)) (vp_Si (fun r => r = rr)) 0 0 (fun _ => False) := by
  refine Met.ofW (cc := cX0_invariant) (maxL := 2) (ret := (some .int)) (by decide) rfl ?_
  intro p e s m args below meth c s₁ B hml hv
  obtain ⟨rfl, hP, hK, hN⟩ := hv
  have hx := B.exec
  have hb := B.bytes
  have hr := B.returns
  have hts := atoms_spec (ws := wsX0_invariant) B.pre
  have hown : s.vm.findClass RX0 = some m.cls := findClass_of_methodNamed B.named
  have hlocks := B.notSynchronized
  have hl := lv_entry ([.ref h0]) (n := 2) (Nat.le_of_ble_eq_true rfl)
  rw [lg_entry_eq]
  generalize (lg_sl ([.ref h0]) ++ List.replicate (2 - (lg_sl ([.ref h0])).length) Slot.unset).toArray = ls at hl ⊢
  have hl : lv_has ls 2 [(0, .ref h0)] := hl
  dsimp only [mX0_invariant] at h
  refine lv_iconst (v := 4) hx hb dX0_invariant_0 (by decide) ?_
  refine lv_aload_n hx hb dX0_invariant_1 rfl (lv_at hl 0 rfl) ?_
  refine va_get (D := (dC, dI)) (ci := 0) (v := .int t_a) (C := RX0) (T := TX0) (N := 12) hx hb hts (by decide +kernel) hown hK hP 0 rfl rfl 1 (by decide) (hts (.fieldLink RX0 15 "PointRings$Curve" "a" "I") (by decide +kernel)) (fun _ h9 => h9) rfl dX0_invariant_2 ?_
  refine lv_aload_n hx hb dX0_invariant_5 rfl (lv_at hl 0 rfl) ?_
  refine va_get (D := (dC, dI)) (ci := 0) (v := .int t_a) (C := RX0) (T := TX0) (N := 12) hx hb hts (by decide +kernel) hown hK hP 0 rfl rfl 1 (by decide) (hts (.fieldLink RX0 15 "PointRings$Curve" "a" "I") (by decide +kernel)) (fun _ h9 => h9) rfl dX0_invariant_6 ?_
  refine lv_imul hx hb dX0_invariant_9 ?_
  refine lv_aload_n hx hb dX0_invariant_10 rfl (lv_at hl 0 rfl) ?_
  refine va_get (D := (dC, dI)) (ci := 0) (v := .int t_p) (C := RX0) (T := TX0) (N := 12) hx hb hts (by decide +kernel) hown hK hP 0 rfl rfl 0 (by decide) (hts (.fieldLink RX0 9 "PointRings$Curve" "p" "I") (by decide +kernel)) (fun _ h9 => h9) rfl dX0_invariant_11 ?_
  have hn1 : ¬ t_p = 0 := fun hz => absurd ((if_pos hz).symm.trans h) (fun hh => nomatch hh)
  replace h := (if_neg hn1).symm.trans h
  refine lv_irem hx hb dX0_invariant_14 hn1 ?_
  refine lv_topi (fun v2 ev2 => ?_)
  replace h := mi_use ev2 h
  refine lv_imul hx hb dX0_invariant_15 ?_
  refine lv_aload_n hx hb dX0_invariant_16 rfl (lv_at hl 0 rfl) ?_
  refine va_get (D := (dC, dI)) (ci := 0) (v := .int t_a) (C := RX0) (T := TX0) (N := 12) hx hb hts (by decide +kernel) hown hK hP 0 rfl rfl 1 (by decide) (hts (.fieldLink RX0 15 "PointRings$Curve" "a" "I") (by decide +kernel)) (fun _ h9 => h9) rfl dX0_invariant_17 ?_
  refine lv_imul hx hb dX0_invariant_20 ?_
  refine lv_aload_n hx hb dX0_invariant_21 rfl (lv_at hl 0 rfl) ?_
  refine va_get (D := (dC, dI)) (ci := 0) (v := .int t_p) (C := RX0) (T := TX0) (N := 12) hx hb hts (by decide +kernel) hown hK hP 0 rfl rfl 0 (by decide) (hts (.fieldLink RX0 9 "PointRings$Curve" "p" "I") (by decide +kernel)) (fun _ h9 => h9) rfl dX0_invariant_22 ?_
  have hn3 : ¬ t_p = 0 := fun hz => absurd ((if_pos hz).symm.trans h) (fun hh => nomatch hh)
  replace h := (if_neg hn3).symm.trans h
  refine lv_irem hx hb dX0_invariant_25 hn3 ?_
  refine lv_topi (fun v4 ev4 => ?_)
  replace h := mi_use ev4 h
  refine lv_istore_n (lv' := [(1, .int v4), (0, .ref h0)]) hx hb dX0_invariant_26 rfl hl (by decide) rfl (fun ls hl => ?_)
  refine lv_sipush (v := 1728) hx hb dX0_invariant_27 (by decide) ?_
  refine lv_aload_n hx hb dX0_invariant_30 rfl (lv_at hl 1 rfl) ?_
  refine va_get (D := (dC, dI)) (ci := 0) (v := .int t_p) (C := RX0) (T := TX0) (N := 12) hx hb hts (by decide +kernel) hown hK hP 0 rfl rfl 0 (by decide) (hts (.fieldLink RX0 9 "PointRings$Curve" "p" "I") (by decide +kernel)) (fun _ h9 => h9) rfl dX0_invariant_31 ?_
  have hn5 : ¬ t_p = 0 := fun hz => absurd ((if_pos hz).symm.trans h) (fun hh => nomatch hh)
  replace h := (if_neg hn5).symm.trans h
  refine lv_irem hx hb dX0_invariant_34 hn5 ?_
  refine lv_topi (fun v6 ev6 => ?_)
  replace h := mi_use ev6 h
  refine lv_iload_n hx hb dX0_invariant_35 rfl (lv_at hl 0 rfl) ?_
  refine lv_imul hx hb dX0_invariant_36 ?_
  refine lv_aload_n hx hb dX0_invariant_37 rfl (lv_at hl 1 rfl) ?_
  refine va_get (D := (dC, dI)) (ci := 0) (v := .int t_p) (C := RX0) (T := TX0) (N := 12) hx hb hts (by decide +kernel) hown hK hP 0 rfl rfl 0 (by decide) (hts (.fieldLink RX0 9 "PointRings$Curve" "p" "I") (by decide +kernel)) (fun _ h9 => h9) rfl dX0_invariant_38 ?_
  have hn7 : ¬ t_p = 0 := fun hz => absurd ((if_pos hz).symm.trans h) (fun hh => nomatch hh)
  replace h := (if_neg hn7).symm.trans h
  refine lv_irem hx hb dX0_invariant_41 hn7 ?_
  refine lv_topi (fun v8 ev8 => ?_)
  replace h := mi_use ev8 h
  refine lv_aload_n hx hb dX0_invariant_42 rfl (lv_at hl 1 rfl) ?_
  refine va_get (D := (dC, dI)) (ci := 0) (v := .int t_a) (C := RX0) (T := TX0) (N := 12) hx hb hts (by decide +kernel) hown hK hP 0 rfl rfl 1 (by decide) (hts (.fieldLink RX0 15 "PointRings$Curve" "a" "I") (by decide +kernel)) (fun _ h9 => h9) rfl dX0_invariant_43 ?_
  refine lv_aload_n hx hb dX0_invariant_46 rfl (lv_at hl 1 rfl) ?_
  refine va_get (D := (dC, dI)) (ci := 0) (v := .int t_b) (C := RX0) (T := TX0) (N := 12) hx hb hts (by decide +kernel) hown hK hP 0 rfl rfl 2 (by decide) (hts (.fieldLink RX0 18 "PointRings$Curve" "b" "I") (by decide +kernel)) (fun _ h9 => h9) rfl dX0_invariant_47 ?_
  refine lv_aload_n hx hb dX0_invariant_50 rfl (lv_at hl 1 rfl) ?_
  refine va_get (D := (dC, dI)) (ci := 0) (v := .int t_p) (C := RX0) (T := TX0) (N := 12) hx hb hts (by decide +kernel) hown hK hP 0 rfl rfl 0 (by decide) (hts (.fieldLink RX0 9 "PointRings$Curve" "p" "I") (by decide +kernel)) (fun _ h9 => h9) rfl dX0_invariant_51 ?_
  obtain ⟨r9, hr9, h⟩ := Option.bind_eq_some_iff.mp h
  refine vp_callSi (W.runS (As := [.int t_a, .int t_b, .int t_p]) (rest := [.int v8]) ⟨hx, hb, hml, hown, hts⟩ (ctX4_cubicMark l N  t_a t_b t_p r9 hr9) (va_cwS 3 hts gX0_invariant_X4_cubicMark rfl rfl rfl (by decide +kernel) ⟨Nat.le_of_ble_eq_true rfl, Nat.le_of_ble_eq_true rfl⟩) preEq rfl rfl hl.1 rfl (lv_room (Nat.le_of_ble_eq_true rfl)) dX0_invariant_54 ⟨Nat.le_of_ble_eq_true rfl, Nat.le_of_ble_eq_true rfl⟩) (fun q9 eq9 => ?_)
  subst q9
  refine lv_aload_n hx hb dX0_invariant_57 rfl (lv_at hl 1 rfl) ?_
  refine va_get (D := (dC, dI)) (ci := 0) (v := .int t_p) (C := RX0) (T := TX0) (N := 12) hx hb hts (by decide +kernel) hown hK hP 0 rfl rfl 0 (by decide) (hts (.fieldLink RX0 9 "PointRings$Curve" "p" "I") (by decide +kernel)) (fun _ h9 => h9) rfl dX0_invariant_58 ?_
  obtain ⟨r10, hr10, h⟩ := Option.bind_eq_some_iff.mp h
  refine vp_callSi (W.runS (As := [.int r9, .int t_p]) (rest := [.int v8]) ⟨hx, hb, hml, hown, hts⟩ (ctX4_inverted l N  r9 t_p r10 hr10) (va_cwS 2 hts gX0_invariant_X4_inverted rfl rfl rfl (by decide +kernel) ⟨Nat.le_of_ble_eq_true rfl, Nat.le_of_ble_eq_true rfl⟩) preEq rfl rfl hl.1 rfl (lv_room (Nat.le_of_ble_eq_true rfl)) dX0_invariant_61 ⟨Nat.le_of_ble_eq_true rfl, Nat.le_of_ble_eq_true rfl⟩) (fun q9 eq9 => ?_)
  subst q9
  refine lv_imul hx hb dX0_invariant_64 ?_
  refine lv_aload_n hx hb dX0_invariant_65 rfl (lv_at hl 1 rfl) ?_
  refine va_get (D := (dC, dI)) (ci := 0) (v := .int t_p) (C := RX0) (T := TX0) (N := 12) hx hb hts (by decide +kernel) hown hK hP 0 rfl rfl 0 (by decide) (hts (.fieldLink RX0 9 "PointRings$Curve" "p" "I") (by decide +kernel)) (fun _ h9 => h9) rfl dX0_invariant_66 ?_
  have hn11 : ¬ t_p = 0 := fun hz => absurd ((if_pos hz).symm.trans h) (fun hh => nomatch hh)
  replace h := (if_neg hn11).symm.trans h
  refine lv_irem hx hb dX0_invariant_69 hn11 ?_
  refine lv_topi (fun v12 ev12 => ?_)
  replace h := mi_use ev12 h
  have hv : v12 = rr := Option.some.inj h
  exact W.iret (v := v12) hx hb hr (fun t ht hW => ⟨_, rfl, hv, ht⟩) (fun q hq => absurd hq List.not_mem_nil) dX0_invariant_70
def mX0_selfMaps (N : Nat) (t_p : Int32) (t_a : Int32) (t_b : Int32) : Option (Int32) := if t_a = 0 then (mX4_commonPart N 6 (t_p - 1)).bind (fun r4 => some r4) else if t_b = 0 then (mX4_commonPart N 4 (t_p - 1)).bind (fun r3 => some r3) else some 2
abbrev rmX0_selfMaps : Room := { frames := 1, cells := 0, slots := 0, locals := 25 }
set_option maxHeartbeats 4000000 in
set_option maxRecDepth 100000 in
theorem ctX0_selfMaps (l : Launch) (N : Nat) (dC : Nat → ClassId) (dI : Nat → Nat → Nat) (h0 : Nat) (t_p : Int32) (t_a : Int32) (t_b : Int32) (t_from : Int32) (t_kernelPoint : Int32) (t_kernelOrder : Int32) (t_points : Int32) (t_inner : Int32) (t_outer : Int32) (t_makersFound : Int32) (t_first : Int32) (t_second : Int32) (rr : Int32) (h : mX0_selfMaps N t_p t_a t_b = some rr) : Met l yX0_selfMaps wsX0_selfMaps rmX0_selfMaps (va_Pc [.ref h0] (fun U => va_P (dC, dI) vwCl [(h0, .inr (0, [.int t_p, .int t_a, .int t_b, .int t_from, .int t_kernelPoint, .int t_kernelOrder, .int t_points, .int t_inner, .int t_outer, .int t_makersFound, .int t_first, .int t_second]))] U.heap ∧ va_K (dC, dI) vwCl [] U ∧ nw_all U)) (vp_Si (fun r => r = rr)) 0 0 (fun _ => False) := by
  refine Met.ofW (cc := cX0_selfMaps) (maxL := 1) (ret := (some .int)) (by decide) rfl ?_
  intro p e s m args below meth c s₁ B hml hv
  obtain ⟨rfl, hP, hK, hN⟩ := hv
  have hx := B.exec
  have hb := B.bytes
  have hr := B.returns
  have hts := atoms_spec (ws := wsX0_selfMaps) B.pre
  have hown : s.vm.findClass RX0 = some m.cls := findClass_of_methodNamed B.named
  have hlocks := B.notSynchronized
  have hl := lv_entry ([.ref h0]) (n := 1) (Nat.le_of_ble_eq_true rfl)
  rw [lg_entry_eq]
  generalize (lg_sl ([.ref h0]) ++ List.replicate (1 - (lg_sl ([.ref h0])).length) Slot.unset).toArray = ls at hl ⊢
  have hl : lv_has ls 1 [(0, .ref h0)] := hl
  dsimp only [mX0_selfMaps] at h
  refine lv_aload_n hx hb dX0_selfMaps_0 rfl (lv_at hl 0 rfl) ?_
  refine va_get (D := (dC, dI)) (ci := 0) (v := .int t_a) (C := RX0) (T := TX0) (N := 12) hx hb hts (by decide +kernel) hown hK hP 0 rfl rfl 1 (by decide) (hts (.fieldLink RX0 15 "PointRings$Curve" "a" "I") (by decide +kernel)) (fun _ h9 => h9) rfl dX0_selfMaps_1 ?_
  refine lv_if_ne (tgt := 19) hx hb dX0_selfMaps_4 (by decide) (fun c1 => ?_) (fun c1 => ?_)
  · replace h := (if_neg c1).symm.trans h
    refine lv_aload_n hx hb dX0_selfMaps_19 rfl (lv_at hl 0 rfl) ?_
    refine va_get (D := (dC, dI)) (ci := 0) (v := .int t_b) (C := RX0) (T := TX0) (N := 12) hx hb hts (by decide +kernel) hown hK hP 0 rfl rfl 2 (by decide) (hts (.fieldLink RX0 18 "PointRings$Curve" "b" "I") (by decide +kernel)) (fun _ h9 => h9) rfl dX0_selfMaps_20 ?_
    refine lv_if_ne (tgt := 39) hx hb dX0_selfMaps_23 (by decide) (fun c2 => ?_) (fun c2 => ?_)
    · replace h := (if_neg c2).symm.trans h
      refine lv_iconst (v := 2) hx hb dX0_selfMaps_39 (by decide) ?_
      have hv : 2 = rr := Option.some.inj h
      exact W.iret (v := 2) hx hb hr (fun t ht hW => ⟨_, rfl, hv, ht⟩) (fun q hq => absurd hq List.not_mem_nil) dX0_selfMaps_40
    · replace h := (if_pos c2).symm.trans h
      refine lv_iconst (v := 4) hx hb dX0_selfMaps_26 (by decide) ?_
      refine lv_aload_n hx hb dX0_selfMaps_27 rfl (lv_at hl 0 rfl) ?_
      refine va_get (D := (dC, dI)) (ci := 0) (v := .int t_p) (C := RX0) (T := TX0) (N := 12) hx hb hts (by decide +kernel) hown hK hP 0 rfl rfl 0 (by decide) (hts (.fieldLink RX0 9 "PointRings$Curve" "p" "I") (by decide +kernel)) (fun _ h9 => h9) rfl dX0_selfMaps_28 ?_
      refine lv_iconst (v := 1) hx hb dX0_selfMaps_31 (by decide) ?_
      refine lv_isub hx hb dX0_selfMaps_32 ?_
      obtain ⟨r3, hr3, h⟩ := Option.bind_eq_some_iff.mp h
      refine vp_callSi (W.runS (As := [.int 4, .int (t_p - 1)]) (rest := []) ⟨hx, hb, hml, hown, hts⟩ (ctX4_commonPart l N  4 (t_p - 1) r3 hr3) (va_cwS 2 hts gX0_selfMaps_X4_commonPart rfl rfl rfl (by decide +kernel) ⟨Nat.le_of_ble_eq_true rfl, Nat.le_of_ble_eq_true rfl⟩) preEq rfl rfl hl.1 rfl (lv_room (Nat.le_of_ble_eq_true rfl)) dX0_selfMaps_33 ⟨Nat.le_of_ble_eq_true rfl, Nat.le_of_ble_eq_true rfl⟩) (fun q9 eq9 => ?_)
      subst q9
      refine lv_goto (tgt := 40) hx hb dX0_selfMaps_36 (by decide) ?_
      have hv : r3 = rr := Option.some.inj h
      exact W.iret (v := r3) hx hb hr (fun t ht hW => ⟨_, rfl, hv, ht⟩) (fun q hq => absurd hq List.not_mem_nil) dX0_selfMaps_40
  · replace h := (if_pos c1).symm.trans h
    refine lv_bipush (v := 6) hx hb dX0_selfMaps_7 (by decide) ?_
    refine lv_aload_n hx hb dX0_selfMaps_9 rfl (lv_at hl 0 rfl) ?_
    refine va_get (D := (dC, dI)) (ci := 0) (v := .int t_p) (C := RX0) (T := TX0) (N := 12) hx hb hts (by decide +kernel) hown hK hP 0 rfl rfl 0 (by decide) (hts (.fieldLink RX0 9 "PointRings$Curve" "p" "I") (by decide +kernel)) (fun _ h9 => h9) rfl dX0_selfMaps_10 ?_
    refine lv_iconst (v := 1) hx hb dX0_selfMaps_13 (by decide) ?_
    refine lv_isub hx hb dX0_selfMaps_14 ?_
    obtain ⟨r4, hr4, h⟩ := Option.bind_eq_some_iff.mp h
    refine vp_callSi (W.runS (As := [.int 6, .int (t_p - 1)]) (rest := []) ⟨hx, hb, hml, hown, hts⟩ (ctX4_commonPart l N  6 (t_p - 1) r4 hr4) (va_cwS 2 hts gX0_selfMaps_X4_commonPart rfl rfl rfl (by decide +kernel) ⟨Nat.le_of_ble_eq_true rfl, Nat.le_of_ble_eq_true rfl⟩) preEq rfl rfl hl.1 rfl (lv_room (Nat.le_of_ble_eq_true rfl)) dX0_selfMaps_15 ⟨Nat.le_of_ble_eq_true rfl, Nat.le_of_ble_eq_true rfl⟩) (fun q9 eq9 => ?_)
    subst q9
    have hv : r4 = rr := Option.some.inj h
    exact W.iret (v := r4) hx hb hr (fun t ht hW => ⟨_, rfl, hv, ht⟩) (fun q hq => absurd hq List.not_mem_nil) dX0_selfMaps_18
def mX0_twisted (N : Nat) (t_p : Int32) (t_a : Int32) (t_b : Int32) : Option (Int32 × Int32 × Int32 × Int32 × Int32 × Int32 × Int32 × Int32 × Int32 × Int32 × Int32 × Int32) := (mX4_leastNoSquare N t_p).bind (fun r1 => if t_p = 0 then none else mi_let (mi_rem (r1 * r1) t_p) (fun v3 => if t_p = 0 then none else mi_let (mi_rem (t_a * v3) t_p) (fun v5 => if t_p = 0 then none else mi_let (mi_rem (v3 * r1) t_p) (fun v7 => if t_p = 0 then none else mi_let (mi_rem (t_b * v7) t_p) (fun v9 => (mX0_init N t_p v5 v9).bind (fun r10 => match r10 with | (u11, u12, u13, u14, u15) => some (u11, u12, u13, 0, 0, 0, 0, 0, 0, 0, u14, u15)))))))
abbrev rmX0_twisted : Room := { frames := 2, cells := 1, slots := 12, locals := 49 }
set_option maxHeartbeats 4000000 in
set_option maxRecDepth 100000 in
theorem ctX0_twisted (l : Launch) (N : Nat) (dC : Nat → ClassId) (dI : Nat → Nat → Nat) (sz : Nat) (h0 : Nat) (t_p : Int32) (t_a : Int32) (t_b : Int32) (t_from : Int32) (t_kernelPoint : Int32) (t_kernelOrder : Int32) (t_points : Int32) (t_inner : Int32) (t_outer : Int32) (t_makersFound : Int32) (t_first : Int32) (t_second : Int32) (rr : Int32 × Int32 × Int32 × Int32 × Int32 × Int32 × Int32 × Int32 × Int32 × Int32 × Int32 × Int32) (h : mX0_twisted N t_p t_a t_b = some rr) : Met l yX0_twisted wsX0_twisted rmX0_twisted (va_Pc [.ref h0] (fun U => U.heap.size = sz ∧ va_P (dC, dI) vwCl [(h0, .inr (0, [.int t_p, .int t_a, .int t_b, .int t_from, .int t_kernelPoint, .int t_kernelOrder, .int t_points, .int t_inner, .int t_outer, .int t_makersFound, .int t_first, .int t_second]))] U.heap ∧ va_K (dC, dI) vwCl [] U ∧ nw_all U ∧ va_D (fun _ => True) [(h0, .inr (0, [.int t_p, .int t_a, .int t_b, .int t_from, .int t_kernelPoint, .int t_kernelOrder, .int t_points, .int t_inner, .int t_outer, .int t_makersFound, .int t_first, .int t_second]))])) (va_Qr (fun (u : Int32 × Int32 × Int32 × Int32 × Int32 × Int32 × Int32 × Int32 × Int32 × Int32 × Int32 × Int32) => u = rr) (fun (u : Int32 × Int32 × Int32 × Int32 × Int32 × Int32 × Int32 × Int32 × Int32 × Int32 × Int32 × Int32) (a : Nat) t => match u with | (u0, u1, u2, u3, u4, u5, u6, u7, u8, u9, u10, u11) => va_P (dC, dI) vwCl [(h0, .inr (0, [.int t_p, .int t_a, .int t_b, .int t_from, .int t_kernelPoint, .int t_kernelOrder, .int t_points, .int t_inner, .int t_outer, .int t_makersFound, .int t_first, .int t_second])), (a, .inr (0, [.int u0, .int u1, .int u2, .int u3, .int u4, .int u5, .int u6, .int u7, .int u8, .int u9, .int u10, .int u11]))] t.heap ∧ va_K (dC, dI) vwCl [] t ∧ va_D (va_A [(h0, .inr (0, [.int t_p, .int t_a, .int t_b, .int t_from, .int t_kernelPoint, .int t_kernelOrder, .int t_points, .int t_inner, .int t_outer, .int t_makersFound, .int t_first, .int t_second]))] sz) [(h0, .inr (0, [.int t_p, .int t_a, .int t_b, .int t_from, .int t_kernelPoint, .int t_kernelOrder, .int t_points, .int t_inner, .int t_outer, .int t_makersFound, .int t_first, .int t_second])), (a, .inr (0, [.int u0, .int u1, .int u2, .int u3, .int u4, .int u5, .int u6, .int u7, .int u8, .int u9, .int u10, .int u11]))]) (va_A [(h0, .inr (0, [.int t_p, .int t_a, .int t_b, .int t_from, .int t_kernelPoint, .int t_kernelOrder, .int t_points, .int t_inner, .int t_outer, .int t_makersFound, .int t_first, .int t_second]))] sz)) 1 12 (va_A [(h0, .inr (0, [.int t_p, .int t_a, .int t_b, .int t_from, .int t_kernelPoint, .int t_kernelOrder, .int t_points, .int t_inner, .int t_outer, .int t_makersFound, .int t_first, .int t_second]))] sz) := by
  refine Met.ofW (cc := cX0_twisted) (maxL := 3) (ret := (some (.object "PointRings$Curve"))) (by decide) rfl ?_
  intro p e s m args below meth c s₁ B hml hv
  obtain ⟨rfl, hsz, hP, hK, hN, hD0⟩ := hv
  have hx := B.exec
  have hb := B.bytes
  have hr := B.returns
  have hts := atoms_spec (ws := wsX0_twisted) B.pre
  have hown : s.vm.findClass RX0 = some m.cls := findClass_of_methodNamed B.named
  have hlocks := B.notSynchronized
  subst hsz
  have hD := hD0.self (sz := s.heap.size)
  generalize hAe : va_A [(h0, .inr (0, [.int t_p, .int t_a, .int t_b, .int t_from, .int t_kernelPoint, .int t_kernelOrder, .int t_points, .int t_inner, .int t_outer, .int t_makersFound, .int t_first, .int t_second]))] s.heap.size = A at hD ⊢
  have hA0 : ∀ q : Nat, s.heap.size ≤ q → A q := fun q h => by rw [← hAe]; exact Or.inr h
  have hS : va_S A s.heap s.heap [] := va_S.rf
  have hP : va_P (dC, dI) vwCl [(h0, .inr (0, [.int t_p, .int t_a, .int t_b, .int t_from, .int t_kernelPoint, .int t_kernelOrder, .int t_points, .int t_inner, .int t_outer, .int t_makersFound, .int t_first, .int t_second]))] s.heap := hP
  have hl := lv_entry ([.ref h0]) (n := 3) (Nat.le_of_ble_eq_true rfl)
  rw [lg_entry_eq]
  generalize (lg_sl ([.ref h0]) ++ List.replicate (3 - (lg_sl ([.ref h0])).length) Slot.unset).toArray = ls at hl ⊢
  have hl : lv_has ls 3 [(0, .ref h0)] := hl
  dsimp only [mX0_twisted] at h
  refine lv_aload_n hx hb dX0_twisted_0 rfl (lv_at hl 0 rfl) ?_
  refine va_get (D := (dC, dI)) (ci := 0) (v := .int t_p) (C := RX0) (T := TX0) (N := 12) hx hb hts (by decide +kernel) hown hK hP 0 rfl rfl 0 (by decide) (hts (.fieldLink RX0 9 "PointRings$Curve" "p" "I") (by decide +kernel)) (fun _ h9 => h9) rfl dX0_twisted_1 ?_
  obtain ⟨r1, hr1, h⟩ := Option.bind_eq_some_iff.mp h
  refine vp_callSi (W.runS (As := [.int t_p]) (rest := []) ⟨hx, hb, hml, hown, hts⟩ (ctX4_leastNoSquare l N  t_p r1 hr1) (va_cwS 1 hts gX0_twisted_X4_leastNoSquare rfl rfl rfl (by decide +kernel) ⟨Nat.le_of_ble_eq_true rfl, Nat.le_of_ble_eq_true rfl⟩) preEq rfl rfl hl.1 rfl (lv_room (Nat.le_of_ble_eq_true rfl)) dX0_twisted_4 ⟨Nat.le_of_ble_eq_true rfl, Nat.le_of_ble_eq_true rfl⟩) (fun q9 eq9 => ?_)
  subst q9
  refine lv_istore_n (lv' := [(1, .int r1), (0, .ref h0)]) hx hb dX0_twisted_7 rfl hl (by decide) rfl (fun ls hl => ?_)
  refine lv_iload_n hx hb dX0_twisted_8 rfl (lv_at hl 0 rfl) ?_
  refine lv_iload_n hx hb dX0_twisted_9 rfl (lv_at hl 0 rfl) ?_
  refine lv_imul hx hb dX0_twisted_10 ?_
  refine lv_aload_n hx hb dX0_twisted_11 rfl (lv_at hl 1 rfl) ?_
  refine va_get (D := (dC, dI)) (ci := 0) (v := .int t_p) (C := RX0) (T := TX0) (N := 12) hx hb hts (by decide +kernel) hown hK hP 0 rfl rfl 0 (by decide) (hts (.fieldLink RX0 9 "PointRings$Curve" "p" "I") (by decide +kernel)) (fun _ h9 => h9) rfl dX0_twisted_12 ?_
  have hn2 : ¬ t_p = 0 := fun hz => absurd ((if_pos hz).symm.trans h) (fun hh => nomatch hh)
  replace h := (if_neg hn2).symm.trans h
  refine lv_irem hx hb dX0_twisted_15 hn2 ?_
  refine lv_topi (fun v3 ev3 => ?_)
  replace h := mi_use ev3 h
  refine lv_istore_n (lv' := [(2, .int v3), (1, .int r1), (0, .ref h0)]) hx hb dX0_twisted_16 rfl hl (by decide) rfl (fun ls hl => ?_)
  refine va_new (ci := 0) (fs := [.int 0, .int 0, .int 0, .int 0, .int 0, .int 0, .int 0, .int 0, .int 0, .int 0, .int 0, .int 0]) (C := RX0) (T := TX0) (N := 12) hx hb hts (by decide +kernel) tyX0 tyX0_ok hown (hts (.classLink RX0 10 RX0) (by decide +kernel)) (hts (.instantiable RX0 12) (by decide +kernel)) (hts (.initialized RX0) (by decide +kernel)) hK hP hD hS hA0 rfl (fun j hj => by rcases (show j = 0 ∨ j = 1 ∨ j = 2 ∨ j = 3 ∨ j = 4 ∨ j = 5 ∨ j = 6 ∨ j = 7 ∨ j = 8 ∨ j = 9 ∨ j = 10 ∨ j = 11 by omega) with rfl | rfl | rfl | rfl | rfl | rfl | rfl | rfl | rfl | rfl | rfl | rfl <;> rfl) (by decide +kernel) (by decide +kernel) dX0_twisted_17 (fun q17 H hP hD hS => ?_)
  have hP : va_P (dC, dI) vwCl [(h0, .inr (0, [.int t_p, .int t_a, .int t_b, .int t_from, .int t_kernelPoint, .int t_kernelOrder, .int t_points, .int t_inner, .int t_outer, .int t_makersFound, .int t_first, .int t_second])), (q17, .inr (0, [.int 0, .int 0, .int 0, .int 0, .int 0, .int 0, .int 0, .int 0, .int 0, .int 0, .int 0, .int 0]))] H := hP
  have hD : va_D A [(h0, .inr (0, [.int t_p, .int t_a, .int t_b, .int t_from, .int t_kernelPoint, .int t_kernelOrder, .int t_points, .int t_inner, .int t_outer, .int t_makersFound, .int t_first, .int t_second])), (q17, .inr (0, [.int 0, .int 0, .int 0, .int 0, .int 0, .int 0, .int 0, .int 0, .int 0, .int 0, .int 0, .int 0]))] := hD
  refine lv_dup hx hb dX0_twisted_20 rfl ?_
  refine lv_aload_n hx hb dX0_twisted_21 rfl (lv_at hl 2 rfl) ?_
  refine va_get (D := (dC, dI)) (ci := 0) (v := .int t_p) (C := RX0) (T := TX0) (N := 12) hx hb hts (by decide +kernel) hown hK hP 0 rfl rfl 0 (by decide) (hts (.fieldLink RX0 9 "PointRings$Curve" "p" "I") (by decide +kernel)) (fun _ h9 => h9) rfl dX0_twisted_22 ?_
  refine lv_aload_n hx hb dX0_twisted_25 rfl (lv_at hl 2 rfl) ?_
  refine va_get (D := (dC, dI)) (ci := 0) (v := .int t_a) (C := RX0) (T := TX0) (N := 12) hx hb hts (by decide +kernel) hown hK hP 0 rfl rfl 1 (by decide) (hts (.fieldLink RX0 15 "PointRings$Curve" "a" "I") (by decide +kernel)) (fun _ h9 => h9) rfl dX0_twisted_26 ?_
  refine lv_iload_n hx hb dX0_twisted_29 rfl (lv_at hl 0 rfl) ?_
  refine lv_imul hx hb dX0_twisted_30 ?_
  refine lv_aload_n hx hb dX0_twisted_31 rfl (lv_at hl 2 rfl) ?_
  refine va_get (D := (dC, dI)) (ci := 0) (v := .int t_p) (C := RX0) (T := TX0) (N := 12) hx hb hts (by decide +kernel) hown hK hP 0 rfl rfl 0 (by decide) (hts (.fieldLink RX0 9 "PointRings$Curve" "p" "I") (by decide +kernel)) (fun _ h9 => h9) rfl dX0_twisted_32 ?_
  have hn4 : ¬ t_p = 0 := fun hz => absurd ((if_pos hz).symm.trans h) (fun hh => nomatch hh)
  replace h := (if_neg hn4).symm.trans h
  refine lv_irem hx hb dX0_twisted_35 hn4 ?_
  refine lv_topi (fun v5 ev5 => ?_)
  replace h := mi_use ev5 h
  refine lv_aload_n hx hb dX0_twisted_36 rfl (lv_at hl 2 rfl) ?_
  refine va_get (D := (dC, dI)) (ci := 0) (v := .int t_b) (C := RX0) (T := TX0) (N := 12) hx hb hts (by decide +kernel) hown hK hP 0 rfl rfl 2 (by decide) (hts (.fieldLink RX0 18 "PointRings$Curve" "b" "I") (by decide +kernel)) (fun _ h9 => h9) rfl dX0_twisted_37 ?_
  refine lv_iload_n hx hb dX0_twisted_40 rfl (lv_at hl 0 rfl) ?_
  refine lv_iload_n hx hb dX0_twisted_41 rfl (lv_at hl 1 rfl) ?_
  refine lv_imul hx hb dX0_twisted_42 ?_
  refine lv_aload_n hx hb dX0_twisted_43 rfl (lv_at hl 2 rfl) ?_
  refine va_get (D := (dC, dI)) (ci := 0) (v := .int t_p) (C := RX0) (T := TX0) (N := 12) hx hb hts (by decide +kernel) hown hK hP 0 rfl rfl 0 (by decide) (hts (.fieldLink RX0 9 "PointRings$Curve" "p" "I") (by decide +kernel)) (fun _ h9 => h9) rfl dX0_twisted_44 ?_
  have hn6 : ¬ t_p = 0 := fun hz => absurd ((if_pos hz).symm.trans h) (fun hh => nomatch hh)
  replace h := (if_neg hn6).symm.trans h
  refine lv_irem hx hb dX0_twisted_47 hn6 ?_
  refine lv_topi (fun v7 ev7 => ?_)
  replace h := mi_use ev7 h
  refine lv_imul hx hb dX0_twisted_48 ?_
  refine lv_aload_n hx hb dX0_twisted_49 rfl (lv_at hl 2 rfl) ?_
  refine va_get (D := (dC, dI)) (ci := 0) (v := .int t_p) (C := RX0) (T := TX0) (N := 12) hx hb hts (by decide +kernel) hown hK hP 0 rfl rfl 0 (by decide) (hts (.fieldLink RX0 9 "PointRings$Curve" "p" "I") (by decide +kernel)) (fun _ h9 => h9) rfl dX0_twisted_50 ?_
  have hn8 : ¬ t_p = 0 := fun hz => absurd ((if_pos hz).symm.trans h) (fun hh => nomatch hh)
  replace h := (if_neg hn8).symm.trans h
  refine lv_irem hx hb dX0_twisted_53 hn8 ?_
  refine lv_topi (fun v9 ev9 => ?_)
  replace h := mi_use ev9 h
  obtain ⟨r10, hr10, h⟩ := Option.bind_eq_some_iff.mp h
  have hPc := hP.sub (ws' := [(q17, .inr (0, [.int 0, .int 0, .int 0, .int 0, .int 0, .int 0, .int 0, .int 0, .int 0, .int 0, .int 0, .int 0]))]) [1] rfl
  have hDc := hD.sub (ws' := [(q17, .inr (0, [.int 0, .int 0, .int 0, .int 0, .int 0, .int 0, .int 0, .int 0, .int 0, .int 0, .int 0, .int 0]))]) [1] (by decide) rfl
  have hKc := hK.sub (tys' := []) [] rfl
  have hFc := va_free (wc := [(q17, .inr (0, [.int 0, .int 0, .int 0, .int 0, .int 0, .int 0, .int 0, .int 0, .int 0, .int 0, .int 0, .int 0]))]) hD hS hA0 [1] rfl
  refine va_callv (va_runI (As := [.int t_p, .int v5, .int v9]) (rest := [.ref q17]) ⟨hx, hb, hml, hown, hts⟩ (ctX0_init l N dC dI _ q17 0 0 0 0 0 0 0 0 0 0 0 0 t_p v5 v9 r10 hr10) (cwI 3 hts gX0_twisted_X0_init rfl rfl rfl (hts (.initialized RX0) (by decide +kernel)) (hts (.methodLink RX0 57 yX0_init) (by decide +kernel)) (hts (.instanceMethod yX0_init) (by decide +kernel)) rfl (by decide +kernel) ⟨Nat.le_of_ble_eq_true rfl, Nat.le_of_ble_eq_true rfl⟩) ⟨fun a U g mk q => by obtain ⟨q0, q1, qP, qK, qN, qD⟩ := q; exact ⟨q0, q1, qP, va_K.moved (u := U) (U := U.calling g mk a) (Vm.Alike.refl U.vm) qK, nw_same (u := U) (U := U.calling g mk a) rfl qN, qD⟩, fun U hU hW => ⟨rfl, by rw [hU], by rw [hU]; exact hPc, va_K.moved hW.alike hKc, nw_warm hW hN, hDc.weaken (fun _ _ _ _ => trivial)⟩⟩ rfl rfl hl.1 rfl (lv_room (Nat.le_of_ble_eq_true rfl)) dX0_twisted_54 ⟨Nat.le_of_ble_eq_true rfl, Nat.le_of_ble_eq_true rfl⟩) hS (fun q _ h => hFc q h) hFc (fun u t H1 locs ht hvm hw hB1 hz1 hk1 hS => ?_)
  obtain ⟨u11, u12, u13, u14, u15⟩ := u
  obtain ⟨hP1, hK1, hD1⟩ := hB1
  rw [ht] at hP1
  have hK1 := va_K.moved hvm.symm hK1
  subst hw
  try dsimp only at h
  obtain ⟨hP, hD⟩ := va_join (wr := [(h0, .inr (0, [.int t_p, .int t_a, .int t_b, .int t_from, .int t_kernelPoint, .int t_kernelOrder, .int t_points, .int t_inner, .int t_outer, .int t_makersFound, .int t_first, .int t_second]))]) (w1 := [(q17, .inr (0, [.int u11, .int u12, .int u13, .int 0, .int 0, .int 0, .int 0, .int 0, .int 0, .int 0, .int u14, .int u15]))]) hP hD [1] [0] rfl rfl (by decide) (by decide) hk1 hFc hP1 hD1
  generalize H1 = H at hP hS ⊢
  have hP := hP.sub (ws' := [(h0, .inr (0, [.int t_p, .int t_a, .int t_b, .int t_from, .int t_kernelPoint, .int t_kernelOrder, .int t_points, .int t_inner, .int t_outer, .int t_makersFound, .int t_first, .int t_second])), (q17, .inr (0, [.int u11, .int u12, .int u13, .int 0, .int 0, .int 0, .int 0, .int 0, .int 0, .int 0, .int u14, .int u15]))]) [0, 1] rfl
  have hD := hD.sub (ws' := [(h0, .inr (0, [.int t_p, .int t_a, .int t_b, .int t_from, .int t_kernelPoint, .int t_kernelOrder, .int t_points, .int t_inner, .int t_outer, .int t_makersFound, .int t_first, .int t_second])), (q17, .inr (0, [.int u11, .int u12, .int u13, .int 0, .int 0, .int 0, .int 0, .int 0, .int 0, .int 0, .int u14, .int u15]))]) [0, 1] (by decide) rfl
  have hv : (u11, u12, u13, 0, 0, 0, 0, 0, 0, 0, u14, u15) = rr := Option.some.inj h
  have hP9 := hP.sub (ws' := [(h0, .inr (0, [.int t_p, .int t_a, .int t_b, .int t_from, .int t_kernelPoint, .int t_kernelOrder, .int t_points, .int t_inner, .int t_outer, .int t_makersFound, .int t_first, .int t_second])), (q17, .inr (0, [.int u11, .int u12, .int u13, .int 0, .int 0, .int 0, .int 0, .int 0, .int 0, .int 0, .int u14, .int u15]))]) [0, 1] rfl
  have hD9 := hD.sub (ws' := [(h0, .inr (0, [.int t_p, .int t_a, .int t_b, .int t_from, .int t_kernelPoint, .int t_kernelOrder, .int t_points, .int t_inner, .int t_outer, .int t_makersFound, .int t_first, .int t_second])), (q17, .inr (0, [.int u11, .int u12, .int u13, .int 0, .int 0, .int 0, .int 0, .int 0, .int 0, .int 0, .int u14, .int u15]))]) [0, 1] (by decide) rfl
  have hK9 := hK.sub (tys' := []) [] rfl
  refine W.widen (k := 1) (n := 12) (by decide +kernel) (by decide +kernel) ?_
  exact W.aret (v := (.ref q17)) hx hb hr (Or.inl ⟨_, rfl⟩) (Or.inr ⟨_, rfl⟩) (fun t ht hW => ⟨⟨(u11, u12, u13, 0, 0, 0, 0, 0, 0, 0, u14, u15), q17, rfl, hv, by rw [ht]; exact hP9, va_K.moved hW.alike hK9, hD9⟩, hS.F ht⟩) hS.2.2 dX0_twisted_57
def mX0_sum (N : Nat) (t_p : Int32) (t_a : Int32) (a0 : Int32) (a1 : Int32) : Option (Int32) := if a0 = (-1) then some a1 else if a1 = (-1) then some a0 else (mX5_xOf N a0).bind (fun r3 => (mX5_yOf N a0).bind (fun r4 => (mX5_xOf N a1).bind (fun r5 => (mX5_yOf N a1).bind (fun r6 => mi_let ((r6 - r4) + t_p) (fun v7 => mi_let (r5 - r3) (fun v8 => if v8 = 0 then if t_p = 0 then none else mi_let (mi_rem (r4 + r6) t_p) (fun v30 => if v30 = 0 then some (-1) else mi_let (((3 * r3) * r3) + t_a) (fun v32 => if t_p = 0 then none else mi_let (mi_rem (2 * r4) t_p) (fun v34 => if t_p = 0 then none else mi_let (mi_rem v32 t_p) (fun v36 => if 0 ≤ v34 then (mX4_inverted N v34 t_p).bind (fun r38 => if t_p = 0 then none else mi_let (mi_rem (v36 * r38) t_p) (fun v40 => if t_p = 0 then none else mi_let (mi_rem ((((v40 * v40) + (2 * t_p)) - r3) - r5) t_p) (fun v42 => if t_p = 0 then none else mi_let (mi_rem (((v40 * ((r3 - v42) + t_p)) + t_p) - r4) t_p) (fun v44 => (mX5_pair N v42 v44).bind (fun r45 => some r45))))) else (mX4_inverted N (v34 + t_p) t_p).bind (fun r46 => if t_p = 0 then none else mi_let (mi_rem (v36 * r46) t_p) (fun v48 => if t_p = 0 then none else mi_let (mi_rem ((((v48 * v48) + (2 * t_p)) - r3) - r5) t_p) (fun v50 => if t_p = 0 then none else mi_let (mi_rem (((v48 * ((r3 - v50) + t_p)) + t_p) - r4) t_p) (fun v52 => (mX5_pair N v50 v52).bind (fun r53 => some r53))))))))) else if t_p = 0 then none else mi_let (mi_rem v7 t_p) (fun v11 => if 0 ≤ v8 then (mX4_inverted N v8 t_p).bind (fun r13 => if t_p = 0 then none else mi_let (mi_rem (v11 * r13) t_p) (fun v15 => if t_p = 0 then none else mi_let (mi_rem ((((v15 * v15) + (2 * t_p)) - r3) - r5) t_p) (fun v17 => if t_p = 0 then none else mi_let (mi_rem (((v15 * ((r3 - v17) + t_p)) + t_p) - r4) t_p) (fun v19 => (mX5_pair N v17 v19).bind (fun r20 => some r20))))) else (mX4_inverted N (v8 + t_p) t_p).bind (fun r21 => if t_p = 0 then none else mi_let (mi_rem (v11 * r21) t_p) (fun v23 => if t_p = 0 then none else mi_let (mi_rem ((((v23 * v23) + (2 * t_p)) - r3) - r5) t_p) (fun v25 => if t_p = 0 then none else mi_let (mi_rem (((v23 * ((r3 - v25) + t_p)) + t_p) - r4) t_p) (fun v27 => (mX5_pair N v25 v27).bind (fun r28 => some r28))))))))))))
abbrev rmX0_sum : Room := { frames := 1, cells := 0, slots := 0, locals := 29 }
set_option maxHeartbeats 4000000 in
set_option maxRecDepth 100000 in
theorem ctX0_sum (l : Launch) (N : Nat) (dC : Nat → ClassId) (dI : Nat → Nat → Nat) (h0 : Nat) (t_p : Int32) (t_a : Int32) (t_b : Int32) (t_from : Int32) (t_kernelPoint : Int32) (t_kernelOrder : Int32) (t_points : Int32) (t_inner : Int32) (t_outer : Int32) (t_makersFound : Int32) (t_first : Int32) (t_second : Int32) (a0 : Int32) (a1 : Int32) (rr : Int32) (h : mX0_sum N t_p t_a a0 a1 = some rr) : Met l yX0_sum wsX0_sum rmX0_sum (va_Pc [.ref h0, .int a0, .int a1] (fun U => va_P (dC, dI) vwCl [(h0, .inr (0, [.int t_p, .int t_a, .int t_b, .int t_from, .int t_kernelPoint, .int t_kernelOrder, .int t_points, .int t_inner, .int t_outer, .int t_makersFound, .int t_first, .int t_second]))] U.heap ∧ va_K (dC, dI) vwCl [] U ∧ nw_all U)) (vp_Si (fun r => r = rr)) 0 0 (fun _ => False) := by
  refine Met.ofW (cc := cX0_sum) (maxL := 12) (ret := (some .int)) (by decide) rfl ?_
  intro p e s m args below meth c s₁ B hml hv
  obtain ⟨rfl, hP, hK, hN⟩ := hv
  have hx := B.exec
  have hb := B.bytes
  have hr := B.returns
  have hts := atoms_spec (ws := wsX0_sum) B.pre
  have hown : s.vm.findClass RX0 = some m.cls := findClass_of_methodNamed B.named
  have hlocks := B.notSynchronized
  have hl := lv_entry ([.ref h0, .int a0, .int a1]) (n := 12) (Nat.le_of_ble_eq_true rfl)
  rw [lg_entry_eq]
  generalize (lg_sl ([.ref h0, .int a0, .int a1]) ++ List.replicate (12 - (lg_sl ([.ref h0, .int a0, .int a1])).length) Slot.unset).toArray = ls at hl ⊢
  have hl : lv_has ls 12 [(0, .ref h0), (1, .int a0), (2, .int a1)] := hl
  dsimp only [mX0_sum] at h
  refine lv_iload_n hx hb dX0_sum_0 rfl (lv_at hl 1 rfl) ?_
  refine lv_iconst (v := (-1)) hx hb dX0_sum_1 (by decide) ?_
  refine lv_icmp_ne (tgt := 7) hx hb dX0_sum_2 (by decide) (fun c1 => ?_) (fun c1 => ?_)
  · replace h := (if_neg c1).symm.trans h
    refine lv_iload_n hx hb dX0_sum_7 rfl (lv_at hl 2 rfl) ?_
    refine lv_iconst (v := (-1)) hx hb dX0_sum_8 (by decide) ?_
    refine lv_icmp_ne (tgt := 14) hx hb dX0_sum_9 (by decide) (fun c2 => ?_) (fun c2 => ?_)
    · replace h := (if_neg c2).symm.trans h
      refine lv_iload_n hx hb dX0_sum_14 rfl (lv_at hl 1 rfl) ?_
      obtain ⟨r3, hr3, h⟩ := Option.bind_eq_some_iff.mp h
      refine vp_callSi (mi_cr (va_runSN (As := [.int a0]) (rest := []) ⟨hx, hb, hml, hown, hts⟩ (ctX5_xOf l N  a0 r3 hr3) ⟨va_cnB 1 hts gX0_sum_X5_xOf_n27 rfl rfl rfl (nw_X0_27 hN) (hts (.initialized RX5) (by decide +kernel)) (by decide +kernel) ⟨Nat.le_of_ble_eq_true rfl, Nat.le_of_ble_eq_true rfl⟩, hts (.static yX5_xOf) (by decide +kernel), trivial⟩ preEq rfl rfl hl.1 rfl (lv_room (Nat.le_of_ble_eq_true rfl)) dX0_sum_15 ⟨Nat.le_of_ble_eq_true rfl, Nat.le_of_ble_eq_true rfl⟩)) (fun q9 eq9 => ?_)
      subst q9
      refine lv_istore_n (lv' := [(3, .int r3), (0, .ref h0), (1, .int a0), (2, .int a1)]) hx hb dX0_sum_18 rfl hl (by decide) rfl (fun ls hl => ?_)
      refine lv_iload_n hx hb dX0_sum_19 rfl (lv_at hl 2 rfl) ?_
      obtain ⟨r4, hr4, h⟩ := Option.bind_eq_some_iff.mp h
      refine vp_callSi (mi_cr (va_runSN (As := [.int a0]) (rest := []) ⟨hx, hb, hml, hown, hts⟩ (ctX5_yOf l N  a0 r4 hr4) ⟨va_cnB 1 hts gX0_sum_X5_yOf_n31 rfl rfl rfl (nw_X0_31 hN) (hts (.initialized RX5) (by decide +kernel)) (by decide +kernel) ⟨Nat.le_of_ble_eq_true rfl, Nat.le_of_ble_eq_true rfl⟩, hts (.static yX5_yOf) (by decide +kernel), trivial⟩ preEq rfl rfl hl.1 rfl (lv_room (Nat.le_of_ble_eq_true rfl)) dX0_sum_20 ⟨Nat.le_of_ble_eq_true rfl, Nat.le_of_ble_eq_true rfl⟩)) (fun q9 eq9 => ?_)
      subst q9
      refine lv_istore (lv' := [(4, .int r4), (3, .int r3), (0, .ref h0), (1, .int a0), (2, .int a1)]) hx hb dX0_sum_23 hl (by decide) rfl (fun ls hl => ?_)
      refine lv_iload_n hx hb dX0_sum_25 rfl (lv_at hl 4 rfl) ?_
      obtain ⟨r5, hr5, h⟩ := Option.bind_eq_some_iff.mp h
      refine vp_callSi (mi_cr (va_runSN (As := [.int a1]) (rest := []) ⟨hx, hb, hml, hown, hts⟩ (ctX5_xOf l N  a1 r5 hr5) ⟨va_cnB 1 hts gX0_sum_X5_xOf_n27 rfl rfl rfl (nw_X0_27 hN) (hts (.initialized RX5) (by decide +kernel)) (by decide +kernel) ⟨Nat.le_of_ble_eq_true rfl, Nat.le_of_ble_eq_true rfl⟩, hts (.static yX5_xOf) (by decide +kernel), trivial⟩ preEq rfl rfl hl.1 rfl (lv_room (Nat.le_of_ble_eq_true rfl)) dX0_sum_26 ⟨Nat.le_of_ble_eq_true rfl, Nat.le_of_ble_eq_true rfl⟩)) (fun q9 eq9 => ?_)
      subst q9
      refine lv_istore (lv' := [(5, .int r5), (4, .int r4), (3, .int r3), (0, .ref h0), (1, .int a0), (2, .int a1)]) hx hb dX0_sum_29 hl (by decide) rfl (fun ls hl => ?_)
      refine lv_iload_n hx hb dX0_sum_31 rfl (lv_at hl 5 rfl) ?_
      obtain ⟨r6, hr6, h⟩ := Option.bind_eq_some_iff.mp h
      refine vp_callSi (mi_cr (va_runSN (As := [.int a1]) (rest := []) ⟨hx, hb, hml, hown, hts⟩ (ctX5_yOf l N  a1 r6 hr6) ⟨va_cnB 1 hts gX0_sum_X5_yOf_n31 rfl rfl rfl (nw_X0_31 hN) (hts (.initialized RX5) (by decide +kernel)) (by decide +kernel) ⟨Nat.le_of_ble_eq_true rfl, Nat.le_of_ble_eq_true rfl⟩, hts (.static yX5_yOf) (by decide +kernel), trivial⟩ preEq rfl rfl hl.1 rfl (lv_room (Nat.le_of_ble_eq_true rfl)) dX0_sum_32 ⟨Nat.le_of_ble_eq_true rfl, Nat.le_of_ble_eq_true rfl⟩)) (fun q9 eq9 => ?_)
      subst q9
      refine lv_istore (lv' := [(6, .int r6), (5, .int r5), (4, .int r4), (3, .int r3), (0, .ref h0), (1, .int a0), (2, .int a1)]) hx hb dX0_sum_35 hl (by decide) rfl (fun ls hl => ?_)
      refine lv_iload hx hb dX0_sum_37 (lv_at hl 0 rfl) ?_
      refine lv_iload hx hb dX0_sum_39 (lv_at hl 2 rfl) ?_
      refine lv_isub hx hb dX0_sum_41 ?_
      refine lv_aload_n hx hb dX0_sum_42 rfl (lv_at hl 4 rfl) ?_
      refine va_get (D := (dC, dI)) (ci := 0) (v := .int t_p) (C := RX0) (T := TX0) (N := 12) hx hb hts (by decide +kernel) hown hK hP 0 rfl rfl 0 (by decide) (hts (.fieldLink RX0 9 "PointRings$Curve" "p" "I") (by decide +kernel)) (fun _ h9 => h9) rfl dX0_sum_43 ?_
      refine lv_iadd hx hb dX0_sum_46 ?_
      refine lv_topi (fun v7 ev7 => ?_)
      replace h := mi_use ev7 h
      refine lv_istore (lv' := [(7, .int v7), (6, .int r6), (5, .int r5), (4, .int r4), (3, .int r3), (0, .ref h0), (1, .int a0), (2, .int a1)]) hx hb dX0_sum_47 hl (by decide) rfl (fun ls hl => ?_)
      refine lv_iload hx hb dX0_sum_49 (lv_at hl 2 rfl) ?_
      refine lv_iload_n hx hb dX0_sum_51 rfl (lv_at hl 4 rfl) ?_
      refine lv_isub hx hb dX0_sum_52 ?_
      refine lv_topi (fun v8 ev8 => ?_)
      replace h := mi_use ev8 h
      refine lv_istore (lv' := [(8, .int v8), (7, .int v7), (6, .int r6), (5, .int r5), (4, .int r4), (3, .int r3), (0, .ref h0), (1, .int a0), (2, .int a1)]) hx hb dX0_sum_53 hl (by decide) rfl (fun ls hl => ?_)
      refine lv_iload hx hb dX0_sum_55 (lv_at hl 0 rfl) ?_
      refine lv_if_ne (tgt := 98) hx hb dX0_sum_57 (by decide) (fun c9 => ?_) (fun c9 => ?_)
      · replace h := (if_neg c9).symm.trans h
        refine lv_iload hx hb dX0_sum_98 (lv_at hl 1 rfl) ?_
        refine lv_aload_n hx hb dX0_sum_100 rfl (lv_at hl 6 rfl) ?_
        refine va_get (D := (dC, dI)) (ci := 0) (v := .int t_p) (C := RX0) (T := TX0) (N := 12) hx hb hts (by decide +kernel) hown hK hP 0 rfl rfl 0 (by decide) (hts (.fieldLink RX0 9 "PointRings$Curve" "p" "I") (by decide +kernel)) (fun _ h9 => h9) rfl dX0_sum_101 ?_
        have hn10 : ¬ t_p = 0 := fun hz => absurd ((if_pos hz).symm.trans h) (fun hh => nomatch hh)
        replace h := (if_neg hn10).symm.trans h
        refine lv_irem hx hb dX0_sum_104 hn10 ?_
        refine lv_topi (fun v11 ev11 => ?_)
        replace h := mi_use ev11 h
        refine lv_iload hx hb dX0_sum_105 (lv_at hl 0 rfl) ?_
        refine lv_if_ge (tgt := 120) hx hb dX0_sum_107 (by decide) (fun c12 => ?_) (fun c12 => ?_)
        · replace h := (if_pos c12).symm.trans h
          refine lv_iload hx hb dX0_sum_120 (lv_at hl 0 rfl) ?_
          refine lv_aload_n hx hb dX0_sum_122 rfl (lv_at hl 6 rfl) ?_
          refine va_get (D := (dC, dI)) (ci := 0) (v := .int t_p) (C := RX0) (T := TX0) (N := 12) hx hb hts (by decide +kernel) hown hK hP 0 rfl rfl 0 (by decide) (hts (.fieldLink RX0 9 "PointRings$Curve" "p" "I") (by decide +kernel)) (fun _ h9 => h9) rfl dX0_sum_123 ?_
          obtain ⟨r13, hr13, h⟩ := Option.bind_eq_some_iff.mp h
          refine vp_callSi (W.runS (As := [.int v8, .int t_p]) (rest := [.int v11]) ⟨hx, hb, hml, hown, hts⟩ (ctX4_inverted l N  v8 t_p r13 hr13) (va_cwS 2 hts gX0_sum_X4_inverted rfl rfl rfl (by decide +kernel) ⟨Nat.le_of_ble_eq_true rfl, Nat.le_of_ble_eq_true rfl⟩) preEq rfl rfl hl.1 rfl (lv_room (Nat.le_of_ble_eq_true rfl)) dX0_sum_126 ⟨Nat.le_of_ble_eq_true rfl, Nat.le_of_ble_eq_true rfl⟩) (fun q9 eq9 => ?_)
          subst q9
          refine lv_imul hx hb dX0_sum_129 ?_
          refine lv_aload_n hx hb dX0_sum_130 rfl (lv_at hl 6 rfl) ?_
          refine va_get (D := (dC, dI)) (ci := 0) (v := .int t_p) (C := RX0) (T := TX0) (N := 12) hx hb hts (by decide +kernel) hown hK hP 0 rfl rfl 0 (by decide) (hts (.fieldLink RX0 9 "PointRings$Curve" "p" "I") (by decide +kernel)) (fun _ h9 => h9) rfl dX0_sum_131 ?_
          have hn14 : ¬ t_p = 0 := fun hz => absurd ((if_pos hz).symm.trans h) (fun hh => nomatch hh)
          replace h := (if_neg hn14).symm.trans h
          refine lv_irem hx hb dX0_sum_134 hn14 ?_
          refine lv_topi (fun v15 ev15 => ?_)
          replace h := mi_use ev15 h
          refine lv_istore (lv' := [(9, .int v15), (8, .int v8), (7, .int v7), (6, .int r6), (5, .int r5), (4, .int r4), (3, .int r3), (0, .ref h0), (1, .int a0), (2, .int a1)]) hx hb dX0_sum_135 hl (by decide) rfl (fun ls hl => ?_)
          refine lv_iload hx hb dX0_sum_137 (lv_at hl 0 rfl) ?_
          refine lv_iload hx hb dX0_sum_139 (lv_at hl 0 rfl) ?_
          refine lv_imul hx hb dX0_sum_141 ?_
          refine lv_iconst (v := 2) hx hb dX0_sum_142 (by decide) ?_
          refine lv_aload_n hx hb dX0_sum_143 rfl (lv_at hl 7 rfl) ?_
          refine va_get (D := (dC, dI)) (ci := 0) (v := .int t_p) (C := RX0) (T := TX0) (N := 12) hx hb hts (by decide +kernel) hown hK hP 0 rfl rfl 0 (by decide) (hts (.fieldLink RX0 9 "PointRings$Curve" "p" "I") (by decide +kernel)) (fun _ h9 => h9) rfl dX0_sum_144 ?_
          refine lv_imul hx hb dX0_sum_147 ?_
          refine lv_iadd hx hb dX0_sum_148 ?_
          refine lv_iload_n hx hb dX0_sum_149 rfl (lv_at hl 6 rfl) ?_
          refine lv_isub hx hb dX0_sum_150 ?_
          refine lv_iload hx hb dX0_sum_151 (lv_at hl 4 rfl) ?_
          refine lv_isub hx hb dX0_sum_153 ?_
          refine lv_aload_n hx hb dX0_sum_154 rfl (lv_at hl 7 rfl) ?_
          refine va_get (D := (dC, dI)) (ci := 0) (v := .int t_p) (C := RX0) (T := TX0) (N := 12) hx hb hts (by decide +kernel) hown hK hP 0 rfl rfl 0 (by decide) (hts (.fieldLink RX0 9 "PointRings$Curve" "p" "I") (by decide +kernel)) (fun _ h9 => h9) rfl dX0_sum_155 ?_
          have hn16 : ¬ t_p = 0 := fun hz => absurd ((if_pos hz).symm.trans h) (fun hh => nomatch hh)
          replace h := (if_neg hn16).symm.trans h
          refine lv_irem hx hb dX0_sum_158 hn16 ?_
          refine lv_topi (fun v17 ev17 => ?_)
          replace h := mi_use ev17 h
          refine lv_istore (lv' := [(10, .int v17), (9, .int v15), (8, .int v8), (7, .int v7), (6, .int r6), (5, .int r5), (4, .int r4), (3, .int r3), (0, .ref h0), (1, .int a0), (2, .int a1)]) hx hb dX0_sum_159 hl (by decide) rfl (fun ls hl => ?_)
          refine lv_iload hx hb dX0_sum_161 (lv_at hl 1 rfl) ?_
          refine lv_iload_n hx hb dX0_sum_163 rfl (lv_at hl 7 rfl) ?_
          refine lv_iload hx hb dX0_sum_164 (lv_at hl 0 rfl) ?_
          refine lv_isub hx hb dX0_sum_166 ?_
          refine lv_aload_n hx hb dX0_sum_167 rfl (lv_at hl 8 rfl) ?_
          refine va_get (D := (dC, dI)) (ci := 0) (v := .int t_p) (C := RX0) (T := TX0) (N := 12) hx hb hts (by decide +kernel) hown hK hP 0 rfl rfl 0 (by decide) (hts (.fieldLink RX0 9 "PointRings$Curve" "p" "I") (by decide +kernel)) (fun _ h9 => h9) rfl dX0_sum_168 ?_
          refine lv_iadd hx hb dX0_sum_171 ?_
          refine lv_imul hx hb dX0_sum_172 ?_
          refine lv_aload_n hx hb dX0_sum_173 rfl (lv_at hl 8 rfl) ?_
          refine va_get (D := (dC, dI)) (ci := 0) (v := .int t_p) (C := RX0) (T := TX0) (N := 12) hx hb hts (by decide +kernel) hown hK hP 0 rfl rfl 0 (by decide) (hts (.fieldLink RX0 9 "PointRings$Curve" "p" "I") (by decide +kernel)) (fun _ h9 => h9) rfl dX0_sum_174 ?_
          refine lv_iadd hx hb dX0_sum_177 ?_
          refine lv_iload hx hb dX0_sum_178 (lv_at hl 6 rfl) ?_
          refine lv_isub hx hb dX0_sum_180 ?_
          refine lv_aload_n hx hb dX0_sum_181 rfl (lv_at hl 8 rfl) ?_
          refine va_get (D := (dC, dI)) (ci := 0) (v := .int t_p) (C := RX0) (T := TX0) (N := 12) hx hb hts (by decide +kernel) hown hK hP 0 rfl rfl 0 (by decide) (hts (.fieldLink RX0 9 "PointRings$Curve" "p" "I") (by decide +kernel)) (fun _ h9 => h9) rfl dX0_sum_182 ?_
          have hn18 : ¬ t_p = 0 := fun hz => absurd ((if_pos hz).symm.trans h) (fun hh => nomatch hh)
          replace h := (if_neg hn18).symm.trans h
          refine lv_irem hx hb dX0_sum_185 hn18 ?_
          refine lv_topi (fun v19 ev19 => ?_)
          replace h := mi_use ev19 h
          refine lv_istore (lv' := [(11, .int v19), (10, .int v17), (9, .int v15), (8, .int v8), (7, .int v7), (6, .int r6), (5, .int r5), (4, .int r4), (3, .int r3), (0, .ref h0), (1, .int a0), (2, .int a1)]) hx hb dX0_sum_186 hl (by decide) rfl (fun ls hl => ?_)
          refine lv_iload hx hb dX0_sum_188 (lv_at hl 1 rfl) ?_
          refine lv_iload hx hb dX0_sum_190 (lv_at hl 0 rfl) ?_
          obtain ⟨r20, hr20, h⟩ := Option.bind_eq_some_iff.mp h
          refine vp_callSi (mi_cr (va_runSN (As := [.int v17, .int v19]) (rest := []) ⟨hx, hb, hml, hown, hts⟩ (ctX5_pair l N  v17 v19 r20 hr20) ⟨va_cnB 2 hts gX0_sum_X5_pair_n60 rfl rfl rfl (nw_X0_60 hN) (hts (.initialized RX5) (by decide +kernel)) (by decide +kernel) ⟨Nat.le_of_ble_eq_true rfl, Nat.le_of_ble_eq_true rfl⟩, hts (.static yX5_pair) (by decide +kernel), trivial⟩ preEq rfl rfl hl.1 rfl (lv_room (Nat.le_of_ble_eq_true rfl)) dX0_sum_192 ⟨Nat.le_of_ble_eq_true rfl, Nat.le_of_ble_eq_true rfl⟩)) (fun q9 eq9 => ?_)
          subst q9
          have hv : r20 = rr := Option.some.inj h
          exact W.iret (v := r20) hx hb hr (fun t ht hW => ⟨_, rfl, hv, ht⟩) (fun q hq => absurd hq List.not_mem_nil) dX0_sum_195
        · replace h := (if_neg c12).symm.trans h
          refine lv_iload hx hb dX0_sum_110 (lv_at hl 0 rfl) ?_
          refine lv_aload_n hx hb dX0_sum_112 rfl (lv_at hl 6 rfl) ?_
          refine va_get (D := (dC, dI)) (ci := 0) (v := .int t_p) (C := RX0) (T := TX0) (N := 12) hx hb hts (by decide +kernel) hown hK hP 0 rfl rfl 0 (by decide) (hts (.fieldLink RX0 9 "PointRings$Curve" "p" "I") (by decide +kernel)) (fun _ h9 => h9) rfl dX0_sum_113 ?_
          refine lv_iadd hx hb dX0_sum_116 ?_
          refine lv_goto (tgt := 122) hx hb dX0_sum_117 (by decide) ?_
          refine lv_aload_n hx hb dX0_sum_122 rfl (lv_at hl 6 rfl) ?_
          refine va_get (D := (dC, dI)) (ci := 0) (v := .int t_p) (C := RX0) (T := TX0) (N := 12) hx hb hts (by decide +kernel) hown hK hP 0 rfl rfl 0 (by decide) (hts (.fieldLink RX0 9 "PointRings$Curve" "p" "I") (by decide +kernel)) (fun _ h9 => h9) rfl dX0_sum_123 ?_
          obtain ⟨r21, hr21, h⟩ := Option.bind_eq_some_iff.mp h
          refine vp_callSi (W.runS (As := [.int (v8 + t_p), .int t_p]) (rest := [.int v11]) ⟨hx, hb, hml, hown, hts⟩ (ctX4_inverted l N  (v8 + t_p) t_p r21 hr21) (va_cwS 2 hts gX0_sum_X4_inverted rfl rfl rfl (by decide +kernel) ⟨Nat.le_of_ble_eq_true rfl, Nat.le_of_ble_eq_true rfl⟩) preEq rfl rfl hl.1 rfl (lv_room (Nat.le_of_ble_eq_true rfl)) dX0_sum_126 ⟨Nat.le_of_ble_eq_true rfl, Nat.le_of_ble_eq_true rfl⟩) (fun q9 eq9 => ?_)
          subst q9
          refine lv_imul hx hb dX0_sum_129 ?_
          refine lv_aload_n hx hb dX0_sum_130 rfl (lv_at hl 6 rfl) ?_
          refine va_get (D := (dC, dI)) (ci := 0) (v := .int t_p) (C := RX0) (T := TX0) (N := 12) hx hb hts (by decide +kernel) hown hK hP 0 rfl rfl 0 (by decide) (hts (.fieldLink RX0 9 "PointRings$Curve" "p" "I") (by decide +kernel)) (fun _ h9 => h9) rfl dX0_sum_131 ?_
          have hn22 : ¬ t_p = 0 := fun hz => absurd ((if_pos hz).symm.trans h) (fun hh => nomatch hh)
          replace h := (if_neg hn22).symm.trans h
          refine lv_irem hx hb dX0_sum_134 hn22 ?_
          refine lv_topi (fun v23 ev23 => ?_)
          replace h := mi_use ev23 h
          refine lv_istore (lv' := [(9, .int v23), (8, .int v8), (7, .int v7), (6, .int r6), (5, .int r5), (4, .int r4), (3, .int r3), (0, .ref h0), (1, .int a0), (2, .int a1)]) hx hb dX0_sum_135 hl (by decide) rfl (fun ls hl => ?_)
          refine lv_iload hx hb dX0_sum_137 (lv_at hl 0 rfl) ?_
          refine lv_iload hx hb dX0_sum_139 (lv_at hl 0 rfl) ?_
          refine lv_imul hx hb dX0_sum_141 ?_
          refine lv_iconst (v := 2) hx hb dX0_sum_142 (by decide) ?_
          refine lv_aload_n hx hb dX0_sum_143 rfl (lv_at hl 7 rfl) ?_
          refine va_get (D := (dC, dI)) (ci := 0) (v := .int t_p) (C := RX0) (T := TX0) (N := 12) hx hb hts (by decide +kernel) hown hK hP 0 rfl rfl 0 (by decide) (hts (.fieldLink RX0 9 "PointRings$Curve" "p" "I") (by decide +kernel)) (fun _ h9 => h9) rfl dX0_sum_144 ?_
          refine lv_imul hx hb dX0_sum_147 ?_
          refine lv_iadd hx hb dX0_sum_148 ?_
          refine lv_iload_n hx hb dX0_sum_149 rfl (lv_at hl 6 rfl) ?_
          refine lv_isub hx hb dX0_sum_150 ?_
          refine lv_iload hx hb dX0_sum_151 (lv_at hl 4 rfl) ?_
          refine lv_isub hx hb dX0_sum_153 ?_
          refine lv_aload_n hx hb dX0_sum_154 rfl (lv_at hl 7 rfl) ?_
          refine va_get (D := (dC, dI)) (ci := 0) (v := .int t_p) (C := RX0) (T := TX0) (N := 12) hx hb hts (by decide +kernel) hown hK hP 0 rfl rfl 0 (by decide) (hts (.fieldLink RX0 9 "PointRings$Curve" "p" "I") (by decide +kernel)) (fun _ h9 => h9) rfl dX0_sum_155 ?_
          have hn24 : ¬ t_p = 0 := fun hz => absurd ((if_pos hz).symm.trans h) (fun hh => nomatch hh)
          replace h := (if_neg hn24).symm.trans h
          refine lv_irem hx hb dX0_sum_158 hn24 ?_
          refine lv_topi (fun v25 ev25 => ?_)
          replace h := mi_use ev25 h
          refine lv_istore (lv' := [(10, .int v25), (9, .int v23), (8, .int v8), (7, .int v7), (6, .int r6), (5, .int r5), (4, .int r4), (3, .int r3), (0, .ref h0), (1, .int a0), (2, .int a1)]) hx hb dX0_sum_159 hl (by decide) rfl (fun ls hl => ?_)
          refine lv_iload hx hb dX0_sum_161 (lv_at hl 1 rfl) ?_
          refine lv_iload_n hx hb dX0_sum_163 rfl (lv_at hl 7 rfl) ?_
          refine lv_iload hx hb dX0_sum_164 (lv_at hl 0 rfl) ?_
          refine lv_isub hx hb dX0_sum_166 ?_
          refine lv_aload_n hx hb dX0_sum_167 rfl (lv_at hl 8 rfl) ?_
          refine va_get (D := (dC, dI)) (ci := 0) (v := .int t_p) (C := RX0) (T := TX0) (N := 12) hx hb hts (by decide +kernel) hown hK hP 0 rfl rfl 0 (by decide) (hts (.fieldLink RX0 9 "PointRings$Curve" "p" "I") (by decide +kernel)) (fun _ h9 => h9) rfl dX0_sum_168 ?_
          refine lv_iadd hx hb dX0_sum_171 ?_
          refine lv_imul hx hb dX0_sum_172 ?_
          refine lv_aload_n hx hb dX0_sum_173 rfl (lv_at hl 8 rfl) ?_
          refine va_get (D := (dC, dI)) (ci := 0) (v := .int t_p) (C := RX0) (T := TX0) (N := 12) hx hb hts (by decide +kernel) hown hK hP 0 rfl rfl 0 (by decide) (hts (.fieldLink RX0 9 "PointRings$Curve" "p" "I") (by decide +kernel)) (fun _ h9 => h9) rfl dX0_sum_174 ?_
          refine lv_iadd hx hb dX0_sum_177 ?_
          refine lv_iload hx hb dX0_sum_178 (lv_at hl 6 rfl) ?_
          refine lv_isub hx hb dX0_sum_180 ?_
          refine lv_aload_n hx hb dX0_sum_181 rfl (lv_at hl 8 rfl) ?_
          refine va_get (D := (dC, dI)) (ci := 0) (v := .int t_p) (C := RX0) (T := TX0) (N := 12) hx hb hts (by decide +kernel) hown hK hP 0 rfl rfl 0 (by decide) (hts (.fieldLink RX0 9 "PointRings$Curve" "p" "I") (by decide +kernel)) (fun _ h9 => h9) rfl dX0_sum_182 ?_
          have hn26 : ¬ t_p = 0 := fun hz => absurd ((if_pos hz).symm.trans h) (fun hh => nomatch hh)
          replace h := (if_neg hn26).symm.trans h
          refine lv_irem hx hb dX0_sum_185 hn26 ?_
          refine lv_topi (fun v27 ev27 => ?_)
          replace h := mi_use ev27 h
          refine lv_istore (lv' := [(11, .int v27), (10, .int v25), (9, .int v23), (8, .int v8), (7, .int v7), (6, .int r6), (5, .int r5), (4, .int r4), (3, .int r3), (0, .ref h0), (1, .int a0), (2, .int a1)]) hx hb dX0_sum_186 hl (by decide) rfl (fun ls hl => ?_)
          refine lv_iload hx hb dX0_sum_188 (lv_at hl 1 rfl) ?_
          refine lv_iload hx hb dX0_sum_190 (lv_at hl 0 rfl) ?_
          obtain ⟨r28, hr28, h⟩ := Option.bind_eq_some_iff.mp h
          refine vp_callSi (mi_cr (va_runSN (As := [.int v25, .int v27]) (rest := []) ⟨hx, hb, hml, hown, hts⟩ (ctX5_pair l N  v25 v27 r28 hr28) ⟨va_cnB 2 hts gX0_sum_X5_pair_n60 rfl rfl rfl (nw_X0_60 hN) (hts (.initialized RX5) (by decide +kernel)) (by decide +kernel) ⟨Nat.le_of_ble_eq_true rfl, Nat.le_of_ble_eq_true rfl⟩, hts (.static yX5_pair) (by decide +kernel), trivial⟩ preEq rfl rfl hl.1 rfl (lv_room (Nat.le_of_ble_eq_true rfl)) dX0_sum_192 ⟨Nat.le_of_ble_eq_true rfl, Nat.le_of_ble_eq_true rfl⟩)) (fun q9 eq9 => ?_)
          subst q9
          have hv : r28 = rr := Option.some.inj h
          exact W.iret (v := r28) hx hb hr (fun t ht hW => ⟨_, rfl, hv, ht⟩) (fun q hq => absurd hq List.not_mem_nil) dX0_sum_195
      · replace h := (if_pos c9).symm.trans h
        refine lv_iload hx hb dX0_sum_60 (lv_at hl 4 rfl) ?_
        refine lv_iload hx hb dX0_sum_62 (lv_at hl 2 rfl) ?_
        refine lv_iadd hx hb dX0_sum_64 ?_
        refine lv_aload_n hx hb dX0_sum_65 rfl (lv_at hl 6 rfl) ?_
        refine va_get (D := (dC, dI)) (ci := 0) (v := .int t_p) (C := RX0) (T := TX0) (N := 12) hx hb hts (by decide +kernel) hown hK hP 0 rfl rfl 0 (by decide) (hts (.fieldLink RX0 9 "PointRings$Curve" "p" "I") (by decide +kernel)) (fun _ h9 => h9) rfl dX0_sum_66 ?_
        have hn29 : ¬ t_p = 0 := fun hz => absurd ((if_pos hz).symm.trans h) (fun hh => nomatch hh)
        replace h := (if_neg hn29).symm.trans h
        refine lv_irem hx hb dX0_sum_69 hn29 ?_
        refine lv_topi (fun v30 ev30 => ?_)
        replace h := mi_use ev30 h
        refine lv_if_ne (tgt := 75) hx hb dX0_sum_70 (by decide) (fun c31 => ?_) (fun c31 => ?_)
        · replace h := (if_neg c31).symm.trans h
          refine lv_iconst (v := 3) hx hb dX0_sum_75 (by decide) ?_
          refine lv_iload_n hx hb dX0_sum_76 rfl (lv_at hl 5 rfl) ?_
          refine lv_imul hx hb dX0_sum_77 ?_
          refine lv_iload_n hx hb dX0_sum_78 rfl (lv_at hl 5 rfl) ?_
          refine lv_imul hx hb dX0_sum_79 ?_
          refine lv_aload_n hx hb dX0_sum_80 rfl (lv_at hl 6 rfl) ?_
          refine va_get (D := (dC, dI)) (ci := 0) (v := .int t_a) (C := RX0) (T := TX0) (N := 12) hx hb hts (by decide +kernel) hown hK hP 0 rfl rfl 1 (by decide) (hts (.fieldLink RX0 15 "PointRings$Curve" "a" "I") (by decide +kernel)) (fun _ h9 => h9) rfl dX0_sum_81 ?_
          refine lv_iadd hx hb dX0_sum_84 ?_
          refine lv_topi (fun v32 ev32 => ?_)
          replace h := mi_use ev32 h
          refine lv_istore (lv' := [(7, .int v32), (8, .int v8), (6, .int r6), (5, .int r5), (4, .int r4), (3, .int r3), (0, .ref h0), (1, .int a0), (2, .int a1)]) hx hb dX0_sum_85 hl (by decide) rfl (fun ls hl => ?_)
          refine lv_iconst (v := 2) hx hb dX0_sum_87 (by decide) ?_
          refine lv_iload hx hb dX0_sum_88 (lv_at hl 4 rfl) ?_
          refine lv_imul hx hb dX0_sum_90 ?_
          refine lv_aload_n hx hb dX0_sum_91 rfl (lv_at hl 6 rfl) ?_
          refine va_get (D := (dC, dI)) (ci := 0) (v := .int t_p) (C := RX0) (T := TX0) (N := 12) hx hb hts (by decide +kernel) hown hK hP 0 rfl rfl 0 (by decide) (hts (.fieldLink RX0 9 "PointRings$Curve" "p" "I") (by decide +kernel)) (fun _ h9 => h9) rfl dX0_sum_92 ?_
          have hn33 : ¬ t_p = 0 := fun hz => absurd ((if_pos hz).symm.trans h) (fun hh => nomatch hh)
          replace h := (if_neg hn33).symm.trans h
          refine lv_irem hx hb dX0_sum_95 hn33 ?_
          refine lv_topi (fun v34 ev34 => ?_)
          replace h := mi_use ev34 h
          refine lv_istore (lv' := [(8, .int v34), (7, .int v32), (6, .int r6), (5, .int r5), (4, .int r4), (3, .int r3), (0, .ref h0), (1, .int a0), (2, .int a1)]) hx hb dX0_sum_96 hl (by decide) rfl (fun ls hl => ?_)
          refine lv_iload hx hb dX0_sum_98 (lv_at hl 1 rfl) ?_
          refine lv_aload_n hx hb dX0_sum_100 rfl (lv_at hl 6 rfl) ?_
          refine va_get (D := (dC, dI)) (ci := 0) (v := .int t_p) (C := RX0) (T := TX0) (N := 12) hx hb hts (by decide +kernel) hown hK hP 0 rfl rfl 0 (by decide) (hts (.fieldLink RX0 9 "PointRings$Curve" "p" "I") (by decide +kernel)) (fun _ h9 => h9) rfl dX0_sum_101 ?_
          have hn35 : ¬ t_p = 0 := fun hz => absurd ((if_pos hz).symm.trans h) (fun hh => nomatch hh)
          replace h := (if_neg hn35).symm.trans h
          refine lv_irem hx hb dX0_sum_104 hn35 ?_
          refine lv_topi (fun v36 ev36 => ?_)
          replace h := mi_use ev36 h
          refine lv_iload hx hb dX0_sum_105 (lv_at hl 0 rfl) ?_
          refine lv_if_ge (tgt := 120) hx hb dX0_sum_107 (by decide) (fun c37 => ?_) (fun c37 => ?_)
          · replace h := (if_pos c37).symm.trans h
            refine lv_iload hx hb dX0_sum_120 (lv_at hl 0 rfl) ?_
            refine lv_aload_n hx hb dX0_sum_122 rfl (lv_at hl 6 rfl) ?_
            refine va_get (D := (dC, dI)) (ci := 0) (v := .int t_p) (C := RX0) (T := TX0) (N := 12) hx hb hts (by decide +kernel) hown hK hP 0 rfl rfl 0 (by decide) (hts (.fieldLink RX0 9 "PointRings$Curve" "p" "I") (by decide +kernel)) (fun _ h9 => h9) rfl dX0_sum_123 ?_
            obtain ⟨r38, hr38, h⟩ := Option.bind_eq_some_iff.mp h
            refine vp_callSi (W.runS (As := [.int v34, .int t_p]) (rest := [.int v36]) ⟨hx, hb, hml, hown, hts⟩ (ctX4_inverted l N  v34 t_p r38 hr38) (va_cwS 2 hts gX0_sum_X4_inverted rfl rfl rfl (by decide +kernel) ⟨Nat.le_of_ble_eq_true rfl, Nat.le_of_ble_eq_true rfl⟩) preEq rfl rfl hl.1 rfl (lv_room (Nat.le_of_ble_eq_true rfl)) dX0_sum_126 ⟨Nat.le_of_ble_eq_true rfl, Nat.le_of_ble_eq_true rfl⟩) (fun q9 eq9 => ?_)
            subst q9
            refine lv_imul hx hb dX0_sum_129 ?_
            refine lv_aload_n hx hb dX0_sum_130 rfl (lv_at hl 6 rfl) ?_
            refine va_get (D := (dC, dI)) (ci := 0) (v := .int t_p) (C := RX0) (T := TX0) (N := 12) hx hb hts (by decide +kernel) hown hK hP 0 rfl rfl 0 (by decide) (hts (.fieldLink RX0 9 "PointRings$Curve" "p" "I") (by decide +kernel)) (fun _ h9 => h9) rfl dX0_sum_131 ?_
            have hn39 : ¬ t_p = 0 := fun hz => absurd ((if_pos hz).symm.trans h) (fun hh => nomatch hh)
            replace h := (if_neg hn39).symm.trans h
            refine lv_irem hx hb dX0_sum_134 hn39 ?_
            refine lv_topi (fun v40 ev40 => ?_)
            replace h := mi_use ev40 h
            refine lv_istore (lv' := [(9, .int v40), (8, .int v34), (7, .int v32), (6, .int r6), (5, .int r5), (4, .int r4), (3, .int r3), (0, .ref h0), (1, .int a0), (2, .int a1)]) hx hb dX0_sum_135 hl (by decide) rfl (fun ls hl => ?_)
            refine lv_iload hx hb dX0_sum_137 (lv_at hl 0 rfl) ?_
            refine lv_iload hx hb dX0_sum_139 (lv_at hl 0 rfl) ?_
            refine lv_imul hx hb dX0_sum_141 ?_
            refine lv_iconst (v := 2) hx hb dX0_sum_142 (by decide) ?_
            refine lv_aload_n hx hb dX0_sum_143 rfl (lv_at hl 7 rfl) ?_
            refine va_get (D := (dC, dI)) (ci := 0) (v := .int t_p) (C := RX0) (T := TX0) (N := 12) hx hb hts (by decide +kernel) hown hK hP 0 rfl rfl 0 (by decide) (hts (.fieldLink RX0 9 "PointRings$Curve" "p" "I") (by decide +kernel)) (fun _ h9 => h9) rfl dX0_sum_144 ?_
            refine lv_imul hx hb dX0_sum_147 ?_
            refine lv_iadd hx hb dX0_sum_148 ?_
            refine lv_iload_n hx hb dX0_sum_149 rfl (lv_at hl 6 rfl) ?_
            refine lv_isub hx hb dX0_sum_150 ?_
            refine lv_iload hx hb dX0_sum_151 (lv_at hl 4 rfl) ?_
            refine lv_isub hx hb dX0_sum_153 ?_
            refine lv_aload_n hx hb dX0_sum_154 rfl (lv_at hl 7 rfl) ?_
            refine va_get (D := (dC, dI)) (ci := 0) (v := .int t_p) (C := RX0) (T := TX0) (N := 12) hx hb hts (by decide +kernel) hown hK hP 0 rfl rfl 0 (by decide) (hts (.fieldLink RX0 9 "PointRings$Curve" "p" "I") (by decide +kernel)) (fun _ h9 => h9) rfl dX0_sum_155 ?_
            have hn41 : ¬ t_p = 0 := fun hz => absurd ((if_pos hz).symm.trans h) (fun hh => nomatch hh)
            replace h := (if_neg hn41).symm.trans h
            refine lv_irem hx hb dX0_sum_158 hn41 ?_
            refine lv_topi (fun v42 ev42 => ?_)
            replace h := mi_use ev42 h
            refine lv_istore (lv' := [(10, .int v42), (9, .int v40), (8, .int v34), (7, .int v32), (6, .int r6), (5, .int r5), (4, .int r4), (3, .int r3), (0, .ref h0), (1, .int a0), (2, .int a1)]) hx hb dX0_sum_159 hl (by decide) rfl (fun ls hl => ?_)
            refine lv_iload hx hb dX0_sum_161 (lv_at hl 1 rfl) ?_
            refine lv_iload_n hx hb dX0_sum_163 rfl (lv_at hl 7 rfl) ?_
            refine lv_iload hx hb dX0_sum_164 (lv_at hl 0 rfl) ?_
            refine lv_isub hx hb dX0_sum_166 ?_
            refine lv_aload_n hx hb dX0_sum_167 rfl (lv_at hl 8 rfl) ?_
            refine va_get (D := (dC, dI)) (ci := 0) (v := .int t_p) (C := RX0) (T := TX0) (N := 12) hx hb hts (by decide +kernel) hown hK hP 0 rfl rfl 0 (by decide) (hts (.fieldLink RX0 9 "PointRings$Curve" "p" "I") (by decide +kernel)) (fun _ h9 => h9) rfl dX0_sum_168 ?_
            refine lv_iadd hx hb dX0_sum_171 ?_
            refine lv_imul hx hb dX0_sum_172 ?_
            refine lv_aload_n hx hb dX0_sum_173 rfl (lv_at hl 8 rfl) ?_
            refine va_get (D := (dC, dI)) (ci := 0) (v := .int t_p) (C := RX0) (T := TX0) (N := 12) hx hb hts (by decide +kernel) hown hK hP 0 rfl rfl 0 (by decide) (hts (.fieldLink RX0 9 "PointRings$Curve" "p" "I") (by decide +kernel)) (fun _ h9 => h9) rfl dX0_sum_174 ?_
            refine lv_iadd hx hb dX0_sum_177 ?_
            refine lv_iload hx hb dX0_sum_178 (lv_at hl 6 rfl) ?_
            refine lv_isub hx hb dX0_sum_180 ?_
            refine lv_aload_n hx hb dX0_sum_181 rfl (lv_at hl 8 rfl) ?_
            refine va_get (D := (dC, dI)) (ci := 0) (v := .int t_p) (C := RX0) (T := TX0) (N := 12) hx hb hts (by decide +kernel) hown hK hP 0 rfl rfl 0 (by decide) (hts (.fieldLink RX0 9 "PointRings$Curve" "p" "I") (by decide +kernel)) (fun _ h9 => h9) rfl dX0_sum_182 ?_
            have hn43 : ¬ t_p = 0 := fun hz => absurd ((if_pos hz).symm.trans h) (fun hh => nomatch hh)
            replace h := (if_neg hn43).symm.trans h
            refine lv_irem hx hb dX0_sum_185 hn43 ?_
            refine lv_topi (fun v44 ev44 => ?_)
            replace h := mi_use ev44 h
            refine lv_istore (lv' := [(11, .int v44), (10, .int v42), (9, .int v40), (8, .int v34), (7, .int v32), (6, .int r6), (5, .int r5), (4, .int r4), (3, .int r3), (0, .ref h0), (1, .int a0), (2, .int a1)]) hx hb dX0_sum_186 hl (by decide) rfl (fun ls hl => ?_)
            refine lv_iload hx hb dX0_sum_188 (lv_at hl 1 rfl) ?_
            refine lv_iload hx hb dX0_sum_190 (lv_at hl 0 rfl) ?_
            obtain ⟨r45, hr45, h⟩ := Option.bind_eq_some_iff.mp h
            refine vp_callSi (mi_cr (va_runSN (As := [.int v42, .int v44]) (rest := []) ⟨hx, hb, hml, hown, hts⟩ (ctX5_pair l N  v42 v44 r45 hr45) ⟨va_cnB 2 hts gX0_sum_X5_pair_n60 rfl rfl rfl (nw_X0_60 hN) (hts (.initialized RX5) (by decide +kernel)) (by decide +kernel) ⟨Nat.le_of_ble_eq_true rfl, Nat.le_of_ble_eq_true rfl⟩, hts (.static yX5_pair) (by decide +kernel), trivial⟩ preEq rfl rfl hl.1 rfl (lv_room (Nat.le_of_ble_eq_true rfl)) dX0_sum_192 ⟨Nat.le_of_ble_eq_true rfl, Nat.le_of_ble_eq_true rfl⟩)) (fun q9 eq9 => ?_)
            subst q9
            have hv : r45 = rr := Option.some.inj h
            exact W.iret (v := r45) hx hb hr (fun t ht hW => ⟨_, rfl, hv, ht⟩) (fun q hq => absurd hq List.not_mem_nil) dX0_sum_195
          · replace h := (if_neg c37).symm.trans h
            refine lv_iload hx hb dX0_sum_110 (lv_at hl 0 rfl) ?_
            refine lv_aload_n hx hb dX0_sum_112 rfl (lv_at hl 6 rfl) ?_
            refine va_get (D := (dC, dI)) (ci := 0) (v := .int t_p) (C := RX0) (T := TX0) (N := 12) hx hb hts (by decide +kernel) hown hK hP 0 rfl rfl 0 (by decide) (hts (.fieldLink RX0 9 "PointRings$Curve" "p" "I") (by decide +kernel)) (fun _ h9 => h9) rfl dX0_sum_113 ?_
            refine lv_iadd hx hb dX0_sum_116 ?_
            refine lv_goto (tgt := 122) hx hb dX0_sum_117 (by decide) ?_
            refine lv_aload_n hx hb dX0_sum_122 rfl (lv_at hl 6 rfl) ?_
            refine va_get (D := (dC, dI)) (ci := 0) (v := .int t_p) (C := RX0) (T := TX0) (N := 12) hx hb hts (by decide +kernel) hown hK hP 0 rfl rfl 0 (by decide) (hts (.fieldLink RX0 9 "PointRings$Curve" "p" "I") (by decide +kernel)) (fun _ h9 => h9) rfl dX0_sum_123 ?_
            obtain ⟨r46, hr46, h⟩ := Option.bind_eq_some_iff.mp h
            refine vp_callSi (W.runS (As := [.int (v34 + t_p), .int t_p]) (rest := [.int v36]) ⟨hx, hb, hml, hown, hts⟩ (ctX4_inverted l N  (v34 + t_p) t_p r46 hr46) (va_cwS 2 hts gX0_sum_X4_inverted rfl rfl rfl (by decide +kernel) ⟨Nat.le_of_ble_eq_true rfl, Nat.le_of_ble_eq_true rfl⟩) preEq rfl rfl hl.1 rfl (lv_room (Nat.le_of_ble_eq_true rfl)) dX0_sum_126 ⟨Nat.le_of_ble_eq_true rfl, Nat.le_of_ble_eq_true rfl⟩) (fun q9 eq9 => ?_)
            subst q9
            refine lv_imul hx hb dX0_sum_129 ?_
            refine lv_aload_n hx hb dX0_sum_130 rfl (lv_at hl 6 rfl) ?_
            refine va_get (D := (dC, dI)) (ci := 0) (v := .int t_p) (C := RX0) (T := TX0) (N := 12) hx hb hts (by decide +kernel) hown hK hP 0 rfl rfl 0 (by decide) (hts (.fieldLink RX0 9 "PointRings$Curve" "p" "I") (by decide +kernel)) (fun _ h9 => h9) rfl dX0_sum_131 ?_
            have hn47 : ¬ t_p = 0 := fun hz => absurd ((if_pos hz).symm.trans h) (fun hh => nomatch hh)
            replace h := (if_neg hn47).symm.trans h
            refine lv_irem hx hb dX0_sum_134 hn47 ?_
            refine lv_topi (fun v48 ev48 => ?_)
            replace h := mi_use ev48 h
            refine lv_istore (lv' := [(9, .int v48), (8, .int v34), (7, .int v32), (6, .int r6), (5, .int r5), (4, .int r4), (3, .int r3), (0, .ref h0), (1, .int a0), (2, .int a1)]) hx hb dX0_sum_135 hl (by decide) rfl (fun ls hl => ?_)
            refine lv_iload hx hb dX0_sum_137 (lv_at hl 0 rfl) ?_
            refine lv_iload hx hb dX0_sum_139 (lv_at hl 0 rfl) ?_
            refine lv_imul hx hb dX0_sum_141 ?_
            refine lv_iconst (v := 2) hx hb dX0_sum_142 (by decide) ?_
            refine lv_aload_n hx hb dX0_sum_143 rfl (lv_at hl 7 rfl) ?_
            refine va_get (D := (dC, dI)) (ci := 0) (v := .int t_p) (C := RX0) (T := TX0) (N := 12) hx hb hts (by decide +kernel) hown hK hP 0 rfl rfl 0 (by decide) (hts (.fieldLink RX0 9 "PointRings$Curve" "p" "I") (by decide +kernel)) (fun _ h9 => h9) rfl dX0_sum_144 ?_
            refine lv_imul hx hb dX0_sum_147 ?_
            refine lv_iadd hx hb dX0_sum_148 ?_
            refine lv_iload_n hx hb dX0_sum_149 rfl (lv_at hl 6 rfl) ?_
            refine lv_isub hx hb dX0_sum_150 ?_
            refine lv_iload hx hb dX0_sum_151 (lv_at hl 4 rfl) ?_
            refine lv_isub hx hb dX0_sum_153 ?_
            refine lv_aload_n hx hb dX0_sum_154 rfl (lv_at hl 7 rfl) ?_
            refine va_get (D := (dC, dI)) (ci := 0) (v := .int t_p) (C := RX0) (T := TX0) (N := 12) hx hb hts (by decide +kernel) hown hK hP 0 rfl rfl 0 (by decide) (hts (.fieldLink RX0 9 "PointRings$Curve" "p" "I") (by decide +kernel)) (fun _ h9 => h9) rfl dX0_sum_155 ?_
            have hn49 : ¬ t_p = 0 := fun hz => absurd ((if_pos hz).symm.trans h) (fun hh => nomatch hh)
            replace h := (if_neg hn49).symm.trans h
            refine lv_irem hx hb dX0_sum_158 hn49 ?_
            refine lv_topi (fun v50 ev50 => ?_)
            replace h := mi_use ev50 h
            refine lv_istore (lv' := [(10, .int v50), (9, .int v48), (8, .int v34), (7, .int v32), (6, .int r6), (5, .int r5), (4, .int r4), (3, .int r3), (0, .ref h0), (1, .int a0), (2, .int a1)]) hx hb dX0_sum_159 hl (by decide) rfl (fun ls hl => ?_)
            refine lv_iload hx hb dX0_sum_161 (lv_at hl 1 rfl) ?_
            refine lv_iload_n hx hb dX0_sum_163 rfl (lv_at hl 7 rfl) ?_
            refine lv_iload hx hb dX0_sum_164 (lv_at hl 0 rfl) ?_
            refine lv_isub hx hb dX0_sum_166 ?_
            refine lv_aload_n hx hb dX0_sum_167 rfl (lv_at hl 8 rfl) ?_
            refine va_get (D := (dC, dI)) (ci := 0) (v := .int t_p) (C := RX0) (T := TX0) (N := 12) hx hb hts (by decide +kernel) hown hK hP 0 rfl rfl 0 (by decide) (hts (.fieldLink RX0 9 "PointRings$Curve" "p" "I") (by decide +kernel)) (fun _ h9 => h9) rfl dX0_sum_168 ?_
            refine lv_iadd hx hb dX0_sum_171 ?_
            refine lv_imul hx hb dX0_sum_172 ?_
            refine lv_aload_n hx hb dX0_sum_173 rfl (lv_at hl 8 rfl) ?_
            refine va_get (D := (dC, dI)) (ci := 0) (v := .int t_p) (C := RX0) (T := TX0) (N := 12) hx hb hts (by decide +kernel) hown hK hP 0 rfl rfl 0 (by decide) (hts (.fieldLink RX0 9 "PointRings$Curve" "p" "I") (by decide +kernel)) (fun _ h9 => h9) rfl dX0_sum_174 ?_
            refine lv_iadd hx hb dX0_sum_177 ?_
            refine lv_iload hx hb dX0_sum_178 (lv_at hl 6 rfl) ?_
            refine lv_isub hx hb dX0_sum_180 ?_
            refine lv_aload_n hx hb dX0_sum_181 rfl (lv_at hl 8 rfl) ?_
            refine va_get (D := (dC, dI)) (ci := 0) (v := .int t_p) (C := RX0) (T := TX0) (N := 12) hx hb hts (by decide +kernel) hown hK hP 0 rfl rfl 0 (by decide) (hts (.fieldLink RX0 9 "PointRings$Curve" "p" "I") (by decide +kernel)) (fun _ h9 => h9) rfl dX0_sum_182 ?_
            have hn51 : ¬ t_p = 0 := fun hz => absurd ((if_pos hz).symm.trans h) (fun hh => nomatch hh)
            replace h := (if_neg hn51).symm.trans h
            refine lv_irem hx hb dX0_sum_185 hn51 ?_
            refine lv_topi (fun v52 ev52 => ?_)
            replace h := mi_use ev52 h
            refine lv_istore (lv' := [(11, .int v52), (10, .int v50), (9, .int v48), (8, .int v34), (7, .int v32), (6, .int r6), (5, .int r5), (4, .int r4), (3, .int r3), (0, .ref h0), (1, .int a0), (2, .int a1)]) hx hb dX0_sum_186 hl (by decide) rfl (fun ls hl => ?_)
            refine lv_iload hx hb dX0_sum_188 (lv_at hl 1 rfl) ?_
            refine lv_iload hx hb dX0_sum_190 (lv_at hl 0 rfl) ?_
            obtain ⟨r53, hr53, h⟩ := Option.bind_eq_some_iff.mp h
            refine vp_callSi (mi_cr (va_runSN (As := [.int v50, .int v52]) (rest := []) ⟨hx, hb, hml, hown, hts⟩ (ctX5_pair l N  v50 v52 r53 hr53) ⟨va_cnB 2 hts gX0_sum_X5_pair_n60 rfl rfl rfl (nw_X0_60 hN) (hts (.initialized RX5) (by decide +kernel)) (by decide +kernel) ⟨Nat.le_of_ble_eq_true rfl, Nat.le_of_ble_eq_true rfl⟩, hts (.static yX5_pair) (by decide +kernel), trivial⟩ preEq rfl rfl hl.1 rfl (lv_room (Nat.le_of_ble_eq_true rfl)) dX0_sum_192 ⟨Nat.le_of_ble_eq_true rfl, Nat.le_of_ble_eq_true rfl⟩)) (fun q9 eq9 => ?_)
            subst q9
            have hv : r53 = rr := Option.some.inj h
            exact W.iret (v := r53) hx hb hr (fun t ht hW => ⟨_, rfl, hv, ht⟩) (fun q hq => absurd hq List.not_mem_nil) dX0_sum_195
        · replace h := (if_pos c31).symm.trans h
          refine lv_iconst (v := (-1)) hx hb dX0_sum_73 (by decide) ?_
          have hv : (-1) = rr := Option.some.inj h
          exact W.iret (v := (-1)) hx hb hr (fun t ht hW => ⟨_, rfl, hv, ht⟩) (fun q hq => absurd hq List.not_mem_nil) dX0_sum_74
    · replace h := (if_pos c2).symm.trans h
      refine lv_iload_n hx hb dX0_sum_12 rfl (lv_at hl 1 rfl) ?_
      have hv : a0 = rr := Option.some.inj h
      exact W.iret (v := a0) hx hb hr (fun t ht hW => ⟨_, rfl, hv, ht⟩) (fun q hq => absurd hq List.not_mem_nil) dX0_sum_13
  · replace h := (if_pos c1).symm.trans h
    refine lv_iload_n hx hb dX0_sum_5 rfl (lv_at hl 2 rfl) ?_
    have hv : a1 = rr := Option.some.inj h
    exact W.iret (v := a1) hx hb hr (fun t ht hW => ⟨_, rfl, hv, ht⟩) (fun q hq => absurd hq List.not_mem_nil) dX0_sum_6
def mX0_multiple_b37 (N : Nat) (t_p : Int32) (t_a : Int32) (st : Int32 × Int32 × Int64 × Int32) : Option ((Int32 × Int32 × Int64 × Int32) ⊕ (Int32 × Int32 × Int64 × Int32)) :=
  match st with
  | (x5, x6, x7, x8) => if 64 ≤ x8 then some (.inr (x5, x6, x7, x8)) else mi_let (lg_cmp x7 0) (fun v14 => if v14 = 0 then some (.inr (x5, x6, x7, x8)) else if x6 = (-1) then some (.inr (x5, x6, x7, x8)) else mi_let (lg_cmp (x7 &&& 1) 1) (fun v17 => if v17 = 0 then (mX0_sum N t_p t_a x5 x6).bind (fun r25 => mi_let ((x7.toUInt64 >>> ((1 : Int32).toInt64.toUInt64 &&& Int64.toUInt64 63)).toInt64) (fun v26 => mi_let (lg_cmp v26 0) (fun v27 => if v27 = 0 then mi_let (x8 + 1) (fun v29 => some (.inl (r25, x6, v26, v29))) else (mX0_sum N t_p t_a x6 x6).bind (fun r30 => mi_let (x8 + 1) (fun v31 => some (.inl (r25, r30, v26, v31))))))) else mi_let ((x7.toUInt64 >>> ((1 : Int32).toInt64.toUInt64 &&& Int64.toUInt64 63)).toInt64) (fun v19 => mi_let (lg_cmp v19 0) (fun v20 => if v20 = 0 then mi_let (x8 + 1) (fun v22 => some (.inl (x5, x6, v19, v22))) else (mX0_sum N t_p t_a x6 x6).bind (fun r23 => mi_let (x8 + 1) (fun v24 => some (.inl (x5, r23, v19, v24))))))))
def mX0_multiple (N : Nat) (t_p : Int32) (t_a : Int32) (a0 : Int32) (a1 : Int64) : Option (Int32) := mi_let (lg_cmp a1 0) (fun v1 => if 0 ≤ v1 then mi_let (lg_cmp a1 0) (fun v3 => if 0 ≤ v3 then (mi_run (mX0_multiple_b37 N t_p t_a) N ((-1), a0, a1, 0)).bind (fun o32 => match o32 with | (y9, y10, y11, y12) => some y9) else mi_let (-a1) (fun v33 => (mi_run (mX0_multiple_b37 N t_p t_a) N ((-1), a0, v33, 0)).bind (fun o61 => match o61 with | (y38, y39, y40, y41) => some y38))) else (mX0_opposite N t_p a0).bind (fun r62 => mi_let (lg_cmp a1 0) (fun v63 => if 0 ≤ v63 then (mi_run (mX0_multiple_b37 N t_p t_a) N ((-1), r62, a1, 0)).bind (fun o92 => match o92 with | (y69, y70, y71, y72) => some y69) else mi_let (-a1) (fun v93 => (mi_run (mX0_multiple_b37 N t_p t_a) N ((-1), r62, v93, 0)).bind (fun o121 => match o121 with | (y98, y99, y100, y101) => some y98)))))
abbrev rmX0_multiple : Room := { frames := 2, cells := 0, slots := 0, locals := 60 }
set_option maxHeartbeats 4000000 in
set_option maxRecDepth 100000 in
theorem ctX0_multiple (l : Launch) (N : Nat) (dC : Nat → ClassId) (dI : Nat → Nat → Nat) (h0 : Nat) (t_p : Int32) (t_a : Int32) (t_b : Int32) (t_from : Int32) (t_kernelPoint : Int32) (t_kernelOrder : Int32) (t_points : Int32) (t_inner : Int32) (t_outer : Int32) (t_makersFound : Int32) (t_first : Int32) (t_second : Int32) (a0 : Int32) (a1 : Int64) (rr : Int32) (h : mX0_multiple N t_p t_a a0 a1 = some rr) : Met l yX0_multiple wsX0_multiple rmX0_multiple (va_Pc [.ref h0, .int a0, .long a1] (fun U => va_P (dC, dI) vwCl [(h0, .inr (0, [.int t_p, .int t_a, .int t_b, .int t_from, .int t_kernelPoint, .int t_kernelOrder, .int t_points, .int t_inner, .int t_outer, .int t_makersFound, .int t_first, .int t_second]))] U.heap ∧ va_K (dC, dI) vwCl [] U ∧ nw_all U)) (vp_Si (fun r => r = rr)) 0 0 (fun _ => False) := by
  refine Met.ofW (cc := cX0_multiple) (maxL := 9) (ret := (some .int)) (by decide) rfl ?_
  intro p e s m args below meth c s₁ B hml hv
  obtain ⟨rfl, hP, hK, hN⟩ := hv
  have hx := B.exec
  have hb := B.bytes
  have hr := B.returns
  have hts := atoms_spec (ws := wsX0_multiple) B.pre
  have hown : s.vm.findClass RX0 = some m.cls := findClass_of_methodNamed B.named
  have hlocks := B.notSynchronized
  have hl := lv_entry ([.ref h0, .int a0, .long a1]) (n := 9) (Nat.le_of_ble_eq_true rfl)
  rw [lg_entry_eq]
  generalize (lg_sl ([.ref h0, .int a0, .long a1]) ++ List.replicate (9 - (lg_sl ([.ref h0, .int a0, .long a1])).length) Slot.unset).toArray = ls at hl ⊢
  have hl : lv_has ls 9 [(0, .ref h0), (1, .int a0), (2, .long a1)] := hl
  dsimp only [mX0_multiple] at h
  refine lv_iconst (v := (-1)) hx hb dX0_multiple_0 (by decide) ?_
  refine lv_istore (lv' := [(4, .int (-1)), (0, .ref h0), (1, .int a0), (2, .long a1)]) hx hb dX0_multiple_1 hl (by decide) rfl (fun ls hl => ?_)
  refine lv_lload_n hx hb dX0_multiple_3 rfl (lv_at hl 3 rfl) ?_
  refine lv_lconst (v := 0) hx hb dX0_multiple_4 (by decide) ?_
  refine W.lcmp hx hb dX0_multiple_5 ?_
  refine lv_topi (fun v1 ev1 => ?_)
  replace h := mi_use ev1 h
  refine lv_if_ge (tgt := 17) hx hb dX0_multiple_6 (by decide) (fun c2 => ?_) (fun c2 => ?_)
  · replace h := (if_pos c2).symm.trans h
    refine lv_iload_n hx hb dX0_multiple_17 rfl (lv_at hl 2 rfl) ?_
    refine lv_istore (lv' := [(5, .int a0), (4, .int (-1)), (0, .ref h0), (1, .int a0), (2, .long a1)]) hx hb dX0_multiple_18 hl (by decide) rfl (fun ls hl => ?_)
    refine lv_lload_n hx hb dX0_multiple_20 rfl (lv_at hl 4 rfl) ?_
    refine lv_lconst (v := 0) hx hb dX0_multiple_21 (by decide) ?_
    refine W.lcmp hx hb dX0_multiple_22 ?_
    refine lv_topi (fun v3 ev3 => ?_)
    replace h := mi_use ev3 h
    refine lv_if_ge (tgt := 31) hx hb dX0_multiple_23 (by decide) (fun c4 => ?_) (fun c4 => ?_)
    · replace h := (if_pos c4).symm.trans h
      refine lv_lload_n hx hb dX0_multiple_31 rfl (lv_at hl 4 rfl) ?_
      refine lv_lstore (lv' := [(6, .long a1), (5, .int a0), (4, .int (-1)), (0, .ref h0), (1, .int a0), (2, .long a1)]) hx hb dX0_multiple_32 hl (by decide) rfl (fun ls hl => ?_)
      refine lv_iconst (v := 0) hx hb dX0_multiple_34 (by decide) ?_
      refine lv_istore (lv' := [(8, .int 0), (6, .long a1), (5, .int a0), (4, .int (-1)), (0, .ref h0), (1, .int a0), (2, .long a1)]) hx hb dX0_multiple_35 hl (by decide) rfl (fun ls hl => ?_)
      have L37 : ∀ (n : Nat) (x5 : Int32) (x6 : Int32) (x7 : Int64) (x8 : Int32) (o : Int32 × Int32 × Int64 × Int32), mi_run (mX0_multiple_b37 N t_p t_a) n (x5, x6, x7, x8) = some o → (∀ (y9 : Int32) (y10 : Int32) (y11 : Int64) (y12 : Int32), o = (y9, y10, y11, y12) → ∀ ls, lv_has ls 9 [(4, .int y9), (5, .int y10), (6, .long y11), (8, .int y12), (0, .ref h0), (1, .int a0), (2, .long a1)] → W p l e (headSpec wsX0_multiple rmX0_multiple).room s m (([.ref h0, .int a0, .long a1] : List Value).toArray) below meth c s.heap [] 0 0 (MQ below (vp_Si (fun r => r = rr)) (([.ref h0, .int a0, .long a1] : List Value).toArray) s 0 0 (fun _ => False)) (F0 m 105 ls [])) → ∀ ls, lv_has ls 9 [(4, .int x5), (5, .int x6), (6, .long x7), (8, .int x8), (0, .ref h0), (1, .int a0), (2, .long a1)] → W p l e (headSpec wsX0_multiple rmX0_multiple).room s m (([.ref h0, .int a0, .long a1] : List Value).toArray) below meth c s.heap [] 0 0 (MQ below (vp_Si (fun r => r = rr)) (([.ref h0, .int a0, .long a1] : List Value).toArray) s 0 0 (fun _ => False)) (F0 m 37 ls []) := by
        intro n
        induction n with
        | zero => intro x5 x6 x7 x8 o h; exact absurd h (mi_run_0 _ _ _)
        | succ n ih =>
          intro x5 x6 x7 x8 o h hkE ls hl
          obtain ⟨w, h, hA, hB⟩ := mi_run_s h
          dsimp only [mX0_multiple_b37] at h
          refine lv_iload hx hb dX0_multiple_37 (lv_at hl 3 rfl) ?_
          refine lv_bipush (v := 64) hx hb dX0_multiple_39 (by decide) ?_
          refine lv_icmp_ge (tgt := 105) hx hb dX0_multiple_41 (by decide) (fun c13 => ?_) (fun c13 => ?_)
          · replace h := (if_pos c13).symm.trans h
            exact hkE _ _ _ _ (hB _ (Option.some.inj h).symm) ls (lv_sub hl [0, 1, 2, 3, 4, 5, 6] rfl)
          · replace h := (if_neg c13).symm.trans h
            refine lv_lload hx hb dX0_multiple_44 (lv_at hl 2 rfl) ?_
            refine lv_lconst (v := 0) hx hb dX0_multiple_46 (by decide) ?_
            refine W.lcmp hx hb dX0_multiple_47 ?_
            refine lv_topi (fun v14 ev14 => ?_)
            replace h := mi_use ev14 h
            refine lv_if_eq (tgt := 105) hx hb dX0_multiple_48 (by decide) (fun c15 => ?_) (fun c15 => ?_)
            · replace h := (if_pos c15).symm.trans h
              exact hkE _ _ _ _ (hB _ (Option.some.inj h).symm) ls (lv_sub hl [0, 1, 2, 3, 4, 5, 6] rfl)
            · replace h := (if_neg c15).symm.trans h
              refine lv_iload hx hb dX0_multiple_51 (lv_at hl 1 rfl) ?_
              refine lv_iconst (v := (-1)) hx hb dX0_multiple_53 (by decide) ?_
              refine lv_icmp_eq (tgt := 105) hx hb dX0_multiple_54 (by decide) (fun c16 => ?_) (fun c16 => ?_)
              · replace h := (if_pos c16).symm.trans h
                exact hkE _ _ _ _ (hB _ (Option.some.inj h).symm) ls (lv_sub hl [0, 1, 2, 3, 4, 5, 6] rfl)
              · replace h := (if_neg c16).symm.trans h
                refine lv_lload hx hb dX0_multiple_57 (lv_at hl 2 rfl) ?_
                refine lv_lconst (v := 1) hx hb dX0_multiple_59 (by decide) ?_
                refine lv_land hx hb dX0_multiple_60 ?_
                refine lv_lconst (v := 1) hx hb dX0_multiple_61 (by decide) ?_
                refine W.lcmp hx hb dX0_multiple_62 ?_
                refine lv_topi (fun v17 ev17 => ?_)
                replace h := mi_use ev17 h
                refine lv_if_ne (tgt := 76) hx hb dX0_multiple_63 (by decide) (fun c18 => ?_) (fun c18 => ?_)
                · replace h := (if_neg c18).symm.trans h
                  refine lv_lload hx hb dX0_multiple_76 (lv_at hl 2 rfl) ?_
                  refine lv_iconst (v := 1) hx hb dX0_multiple_78 (by decide) ?_
                  refine lv_lushr hx hb dX0_multiple_79 rfl ?_
                  refine lv_topl (fun v19 ev19 => ?_)
                  replace h := mi_use ev19 h
                  refine lv_lstore (lv' := [(6, .long v19), (4, .int x5), (5, .int x6), (8, .int x8), (0, .ref h0), (1, .int a0), (2, .long a1)]) hx hb dX0_multiple_80 hl (by decide) rfl (fun ls hl => ?_)
                  refine lv_lload hx hb dX0_multiple_82 (lv_at hl 0 rfl) ?_
                  refine lv_lconst (v := 0) hx hb dX0_multiple_84 (by decide) ?_
                  refine W.lcmp hx hb dX0_multiple_85 ?_
                  refine lv_topi (fun v20 ev20 => ?_)
                  replace h := mi_use ev20 h
                  refine lv_if_eq (tgt := 99) hx hb dX0_multiple_86 (by decide) (fun c21 => ?_) (fun c21 => ?_)
                  · replace h := (if_pos c21).symm.trans h
                    obtain ⟨v22, ev22⟩ : ∃ z : Int32, z = x8 + 1 := ⟨_, rfl⟩
                    refine lv_iinc (v := v22) (lv' := [(8, .int v22), (6, .long v19), (4, .int x5), (5, .int x6), (0, .ref h0), (1, .int a0), (2, .long a1)]) hx hb dX0_multiple_99 hl (k := 3) rfl (by rw [ev22]; rfl) (by decide) rfl (fun ls hl => ?_)
                    replace h := mi_use ev22 h
                    refine lv_goto (tgt := 37) hx hb dX0_multiple_102 (by decide) ?_
                    exact ih _ _ _ _ _ (hA _ (Option.some.inj h).symm) hkE ls (lv_sub hl [2, 3, 1, 0, 4, 5, 6] rfl)
                  · replace h := (if_neg c21).symm.trans h
                    refine lv_aload_n hx hb dX0_multiple_89 rfl (lv_at hl 4 rfl) ?_
                    refine lv_iload hx hb dX0_multiple_90 (lv_at hl 2 rfl) ?_
                    refine lv_iload hx hb dX0_multiple_92 (lv_at hl 2 rfl) ?_
                    obtain ⟨r23, hr23, h⟩ := Option.bind_eq_some_iff.mp h
                    have hPc := hP.sub (ws' := [(h0, .inr (0, [.int t_p, .int t_a, .int t_b, .int t_from, .int t_kernelPoint, .int t_kernelOrder, .int t_points, .int t_inner, .int t_outer, .int t_makersFound, .int t_first, .int t_second]))]) [0] rfl
                    have hKc := hK.sub (tys' := []) [] rfl
                    refine vp_callSi (W.runV (As := [.int x6, .int x6]) (rest := []) ⟨hx, hb, hml, hown, hts⟩ (ctX0_sum l N dC dI  h0 t_p t_a t_b t_from t_kernelPoint t_kernelOrder t_points t_inner t_outer t_makersFound t_first t_second x6 x6 r23 hr23) (cwV 2 hts gX0_multiple_X0_sum rfl rfl rfl (by decide +kernel) ⟨Nat.le_of_ble_eq_true rfl, Nat.le_of_ble_eq_true rfl⟩) ⟨fun a U g mk q => by obtain ⟨q0, qP, qK, qN⟩ := q; exact ⟨q0, qP, va_K.moved (u := U) (U := U.calling g mk a) (Vm.Alike.refl U.vm) qK, nw_same (u := U) (U := U.calling g mk a) rfl qN⟩, va_recv hKc hPc (ci := 0) (q0 := 0) rfl rfl, fun U hU hW => ⟨rfl, by rw [hU]; exact hPc, va_K.moved hW.alike hKc, nw_warm hW hN⟩⟩ rfl rfl hl.1 rfl (lv_room (Nat.le_of_ble_eq_true rfl)) dX0_multiple_94 ⟨Nat.le_of_ble_eq_true rfl, Nat.le_of_ble_eq_true rfl⟩) (fun q9 eq9 => ?_)
                    subst q9
                    refine lv_istore (lv' := [(5, .int r23), (6, .long v19), (4, .int x5), (8, .int x8), (0, .ref h0), (1, .int a0), (2, .long a1)]) hx hb dX0_multiple_97 hl (by decide) rfl (fun ls hl => ?_)
                    obtain ⟨v24, ev24⟩ : ∃ z : Int32, z = x8 + 1 := ⟨_, rfl⟩
                    refine lv_iinc (v := v24) (lv' := [(8, .int v24), (5, .int r23), (6, .long v19), (4, .int x5), (0, .ref h0), (1, .int a0), (2, .long a1)]) hx hb dX0_multiple_99 hl (k := 3) rfl (by rw [ev24]; rfl) (by decide) rfl (fun ls hl => ?_)
                    replace h := mi_use ev24 h
                    refine lv_goto (tgt := 37) hx hb dX0_multiple_102 (by decide) ?_
                    exact ih _ _ _ _ _ (hA _ (Option.some.inj h).symm) hkE ls (lv_sub hl [3, 1, 2, 0, 4, 5, 6] rfl)
                · replace h := (if_pos c18).symm.trans h
                  refine lv_aload_n hx hb dX0_multiple_66 rfl (lv_at hl 4 rfl) ?_
                  refine lv_iload hx hb dX0_multiple_67 (lv_at hl 0 rfl) ?_
                  refine lv_iload hx hb dX0_multiple_69 (lv_at hl 1 rfl) ?_
                  obtain ⟨r25, hr25, h⟩ := Option.bind_eq_some_iff.mp h
                  have hPc := hP.sub (ws' := [(h0, .inr (0, [.int t_p, .int t_a, .int t_b, .int t_from, .int t_kernelPoint, .int t_kernelOrder, .int t_points, .int t_inner, .int t_outer, .int t_makersFound, .int t_first, .int t_second]))]) [0] rfl
                  have hKc := hK.sub (tys' := []) [] rfl
                  refine vp_callSi (W.runV (As := [.int x5, .int x6]) (rest := []) ⟨hx, hb, hml, hown, hts⟩ (ctX0_sum l N dC dI  h0 t_p t_a t_b t_from t_kernelPoint t_kernelOrder t_points t_inner t_outer t_makersFound t_first t_second x5 x6 r25 hr25) (cwV 2 hts gX0_multiple_X0_sum rfl rfl rfl (by decide +kernel) ⟨Nat.le_of_ble_eq_true rfl, Nat.le_of_ble_eq_true rfl⟩) ⟨fun a U g mk q => by obtain ⟨q0, qP, qK, qN⟩ := q; exact ⟨q0, qP, va_K.moved (u := U) (U := U.calling g mk a) (Vm.Alike.refl U.vm) qK, nw_same (u := U) (U := U.calling g mk a) rfl qN⟩, va_recv hKc hPc (ci := 0) (q0 := 0) rfl rfl, fun U hU hW => ⟨rfl, by rw [hU]; exact hPc, va_K.moved hW.alike hKc, nw_warm hW hN⟩⟩ rfl rfl hl.1 rfl (lv_room (Nat.le_of_ble_eq_true rfl)) dX0_multiple_71 ⟨Nat.le_of_ble_eq_true rfl, Nat.le_of_ble_eq_true rfl⟩) (fun q9 eq9 => ?_)
                  subst q9
                  refine lv_istore (lv' := [(4, .int r25), (5, .int x6), (6, .long x7), (8, .int x8), (0, .ref h0), (1, .int a0), (2, .long a1)]) hx hb dX0_multiple_74 hl (by decide) rfl (fun ls hl => ?_)
                  refine lv_lload hx hb dX0_multiple_76 (lv_at hl 2 rfl) ?_
                  refine lv_iconst (v := 1) hx hb dX0_multiple_78 (by decide) ?_
                  refine lv_lushr hx hb dX0_multiple_79 rfl ?_
                  refine lv_topl (fun v26 ev26 => ?_)
                  replace h := mi_use ev26 h
                  refine lv_lstore (lv' := [(6, .long v26), (4, .int r25), (5, .int x6), (8, .int x8), (0, .ref h0), (1, .int a0), (2, .long a1)]) hx hb dX0_multiple_80 hl (by decide) rfl (fun ls hl => ?_)
                  refine lv_lload hx hb dX0_multiple_82 (lv_at hl 0 rfl) ?_
                  refine lv_lconst (v := 0) hx hb dX0_multiple_84 (by decide) ?_
                  refine W.lcmp hx hb dX0_multiple_85 ?_
                  refine lv_topi (fun v27 ev27 => ?_)
                  replace h := mi_use ev27 h
                  refine lv_if_eq (tgt := 99) hx hb dX0_multiple_86 (by decide) (fun c28 => ?_) (fun c28 => ?_)
                  · replace h := (if_pos c28).symm.trans h
                    obtain ⟨v29, ev29⟩ : ∃ z : Int32, z = x8 + 1 := ⟨_, rfl⟩
                    refine lv_iinc (v := v29) (lv' := [(8, .int v29), (6, .long v26), (4, .int r25), (5, .int x6), (0, .ref h0), (1, .int a0), (2, .long a1)]) hx hb dX0_multiple_99 hl (k := 3) rfl (by rw [ev29]; rfl) (by decide) rfl (fun ls hl => ?_)
                    replace h := mi_use ev29 h
                    refine lv_goto (tgt := 37) hx hb dX0_multiple_102 (by decide) ?_
                    exact ih _ _ _ _ _ (hA _ (Option.some.inj h).symm) hkE ls (lv_sub hl [2, 3, 1, 0, 4, 5, 6] rfl)
                  · replace h := (if_neg c28).symm.trans h
                    refine lv_aload_n hx hb dX0_multiple_89 rfl (lv_at hl 4 rfl) ?_
                    refine lv_iload hx hb dX0_multiple_90 (lv_at hl 2 rfl) ?_
                    refine lv_iload hx hb dX0_multiple_92 (lv_at hl 2 rfl) ?_
                    obtain ⟨r30, hr30, h⟩ := Option.bind_eq_some_iff.mp h
                    have hPc := hP.sub (ws' := [(h0, .inr (0, [.int t_p, .int t_a, .int t_b, .int t_from, .int t_kernelPoint, .int t_kernelOrder, .int t_points, .int t_inner, .int t_outer, .int t_makersFound, .int t_first, .int t_second]))]) [0] rfl
                    have hKc := hK.sub (tys' := []) [] rfl
                    refine vp_callSi (W.runV (As := [.int x6, .int x6]) (rest := []) ⟨hx, hb, hml, hown, hts⟩ (ctX0_sum l N dC dI  h0 t_p t_a t_b t_from t_kernelPoint t_kernelOrder t_points t_inner t_outer t_makersFound t_first t_second x6 x6 r30 hr30) (cwV 2 hts gX0_multiple_X0_sum rfl rfl rfl (by decide +kernel) ⟨Nat.le_of_ble_eq_true rfl, Nat.le_of_ble_eq_true rfl⟩) ⟨fun a U g mk q => by obtain ⟨q0, qP, qK, qN⟩ := q; exact ⟨q0, qP, va_K.moved (u := U) (U := U.calling g mk a) (Vm.Alike.refl U.vm) qK, nw_same (u := U) (U := U.calling g mk a) rfl qN⟩, va_recv hKc hPc (ci := 0) (q0 := 0) rfl rfl, fun U hU hW => ⟨rfl, by rw [hU]; exact hPc, va_K.moved hW.alike hKc, nw_warm hW hN⟩⟩ rfl rfl hl.1 rfl (lv_room (Nat.le_of_ble_eq_true rfl)) dX0_multiple_94 ⟨Nat.le_of_ble_eq_true rfl, Nat.le_of_ble_eq_true rfl⟩) (fun q9 eq9 => ?_)
                    subst q9
                    refine lv_istore (lv' := [(5, .int r30), (6, .long v26), (4, .int r25), (8, .int x8), (0, .ref h0), (1, .int a0), (2, .long a1)]) hx hb dX0_multiple_97 hl (by decide) rfl (fun ls hl => ?_)
                    obtain ⟨v31, ev31⟩ : ∃ z : Int32, z = x8 + 1 := ⟨_, rfl⟩
                    refine lv_iinc (v := v31) (lv' := [(8, .int v31), (5, .int r30), (6, .long v26), (4, .int r25), (0, .ref h0), (1, .int a0), (2, .long a1)]) hx hb dX0_multiple_99 hl (k := 3) rfl (by rw [ev31]; rfl) (by decide) rfl (fun ls hl => ?_)
                    replace h := mi_use ev31 h
                    refine lv_goto (tgt := 37) hx hb dX0_multiple_102 (by decide) ?_
                    exact ih _ _ _ _ _ (hA _ (Option.some.inj h).symm) hkE ls (lv_sub hl [3, 1, 2, 0, 4, 5, 6] rfl)
      obtain ⟨o32, ho32, h⟩ := Option.bind_eq_some_iff.mp h
      refine L37 N _ _ _ _ o32 ho32 ?_ ls (lv_sub hl [3, 2, 1, 0, 4, 5, 6] rfl)
      intro y9 y10 y11 y12 eo ls hl
      subst eo
      try dsimp only at h
      refine lv_iload hx hb dX0_multiple_105 (lv_at hl 0 rfl) ?_
      have hv : y9 = rr := Option.some.inj h
      exact W.iret (v := y9) hx hb hr (fun t ht hW => ⟨_, rfl, hv, ht⟩) (fun q hq => absurd hq List.not_mem_nil) dX0_multiple_107
    · replace h := (if_neg c4).symm.trans h
      refine lv_lload_n hx hb dX0_multiple_26 rfl (lv_at hl 4 rfl) ?_
      refine lv_lneg hx hb dX0_multiple_27 ?_
      refine lv_goto (tgt := 32) hx hb dX0_multiple_28 (by decide) ?_
      refine lv_topl (fun v33 ev33 => ?_)
      replace h := mi_use ev33 h
      refine lv_lstore (lv' := [(6, .long v33), (5, .int a0), (4, .int (-1)), (0, .ref h0), (1, .int a0), (2, .long a1)]) hx hb dX0_multiple_32 hl (by decide) rfl (fun ls hl => ?_)
      refine lv_iconst (v := 0) hx hb dX0_multiple_34 (by decide) ?_
      refine lv_istore (lv' := [(8, .int 0), (6, .long v33), (5, .int a0), (4, .int (-1)), (0, .ref h0), (1, .int a0), (2, .long a1)]) hx hb dX0_multiple_35 hl (by decide) rfl (fun ls hl => ?_)
      have L37 : ∀ (n : Nat) (x34 : Int32) (x35 : Int32) (x36 : Int64) (x37 : Int32) (o : Int32 × Int32 × Int64 × Int32), mi_run (mX0_multiple_b37 N t_p t_a) n (x34, x35, x36, x37) = some o → (∀ (y38 : Int32) (y39 : Int32) (y40 : Int64) (y41 : Int32), o = (y38, y39, y40, y41) → ∀ ls, lv_has ls 9 [(4, .int y38), (5, .int y39), (6, .long y40), (8, .int y41), (0, .ref h0), (1, .int a0), (2, .long a1)] → W p l e (headSpec wsX0_multiple rmX0_multiple).room s m (([.ref h0, .int a0, .long a1] : List Value).toArray) below meth c s.heap [] 0 0 (MQ below (vp_Si (fun r => r = rr)) (([.ref h0, .int a0, .long a1] : List Value).toArray) s 0 0 (fun _ => False)) (F0 m 105 ls [])) → ∀ ls, lv_has ls 9 [(4, .int x34), (5, .int x35), (6, .long x36), (8, .int x37), (0, .ref h0), (1, .int a0), (2, .long a1)] → W p l e (headSpec wsX0_multiple rmX0_multiple).room s m (([.ref h0, .int a0, .long a1] : List Value).toArray) below meth c s.heap [] 0 0 (MQ below (vp_Si (fun r => r = rr)) (([.ref h0, .int a0, .long a1] : List Value).toArray) s 0 0 (fun _ => False)) (F0 m 37 ls []) := by
        intro n
        induction n with
        | zero => intro x34 x35 x36 x37 o h; exact absurd h (mi_run_0 _ _ _)
        | succ n ih =>
          intro x34 x35 x36 x37 o h hkE ls hl
          obtain ⟨w, h, hA, hB⟩ := mi_run_s h
          dsimp only [mX0_multiple_b37] at h
          refine lv_iload hx hb dX0_multiple_37 (lv_at hl 3 rfl) ?_
          refine lv_bipush (v := 64) hx hb dX0_multiple_39 (by decide) ?_
          refine lv_icmp_ge (tgt := 105) hx hb dX0_multiple_41 (by decide) (fun c42 => ?_) (fun c42 => ?_)
          · replace h := (if_pos c42).symm.trans h
            exact hkE _ _ _ _ (hB _ (Option.some.inj h).symm) ls (lv_sub hl [0, 1, 2, 3, 4, 5, 6] rfl)
          · replace h := (if_neg c42).symm.trans h
            refine lv_lload hx hb dX0_multiple_44 (lv_at hl 2 rfl) ?_
            refine lv_lconst (v := 0) hx hb dX0_multiple_46 (by decide) ?_
            refine W.lcmp hx hb dX0_multiple_47 ?_
            refine lv_topi (fun v43 ev43 => ?_)
            replace h := mi_use ev43 h
            refine lv_if_eq (tgt := 105) hx hb dX0_multiple_48 (by decide) (fun c44 => ?_) (fun c44 => ?_)
            · replace h := (if_pos c44).symm.trans h
              exact hkE _ _ _ _ (hB _ (Option.some.inj h).symm) ls (lv_sub hl [0, 1, 2, 3, 4, 5, 6] rfl)
            · replace h := (if_neg c44).symm.trans h
              refine lv_iload hx hb dX0_multiple_51 (lv_at hl 1 rfl) ?_
              refine lv_iconst (v := (-1)) hx hb dX0_multiple_53 (by decide) ?_
              refine lv_icmp_eq (tgt := 105) hx hb dX0_multiple_54 (by decide) (fun c45 => ?_) (fun c45 => ?_)
              · replace h := (if_pos c45).symm.trans h
                exact hkE _ _ _ _ (hB _ (Option.some.inj h).symm) ls (lv_sub hl [0, 1, 2, 3, 4, 5, 6] rfl)
              · replace h := (if_neg c45).symm.trans h
                refine lv_lload hx hb dX0_multiple_57 (lv_at hl 2 rfl) ?_
                refine lv_lconst (v := 1) hx hb dX0_multiple_59 (by decide) ?_
                refine lv_land hx hb dX0_multiple_60 ?_
                refine lv_lconst (v := 1) hx hb dX0_multiple_61 (by decide) ?_
                refine W.lcmp hx hb dX0_multiple_62 ?_
                refine lv_topi (fun v46 ev46 => ?_)
                replace h := mi_use ev46 h
                refine lv_if_ne (tgt := 76) hx hb dX0_multiple_63 (by decide) (fun c47 => ?_) (fun c47 => ?_)
                · replace h := (if_neg c47).symm.trans h
                  refine lv_lload hx hb dX0_multiple_76 (lv_at hl 2 rfl) ?_
                  refine lv_iconst (v := 1) hx hb dX0_multiple_78 (by decide) ?_
                  refine lv_lushr hx hb dX0_multiple_79 rfl ?_
                  refine lv_topl (fun v48 ev48 => ?_)
                  replace h := mi_use ev48 h
                  refine lv_lstore (lv' := [(6, .long v48), (4, .int x34), (5, .int x35), (8, .int x37), (0, .ref h0), (1, .int a0), (2, .long a1)]) hx hb dX0_multiple_80 hl (by decide) rfl (fun ls hl => ?_)
                  refine lv_lload hx hb dX0_multiple_82 (lv_at hl 0 rfl) ?_
                  refine lv_lconst (v := 0) hx hb dX0_multiple_84 (by decide) ?_
                  refine W.lcmp hx hb dX0_multiple_85 ?_
                  refine lv_topi (fun v49 ev49 => ?_)
                  replace h := mi_use ev49 h
                  refine lv_if_eq (tgt := 99) hx hb dX0_multiple_86 (by decide) (fun c50 => ?_) (fun c50 => ?_)
                  · replace h := (if_pos c50).symm.trans h
                    obtain ⟨v51, ev51⟩ : ∃ z : Int32, z = x37 + 1 := ⟨_, rfl⟩
                    refine lv_iinc (v := v51) (lv' := [(8, .int v51), (6, .long v48), (4, .int x34), (5, .int x35), (0, .ref h0), (1, .int a0), (2, .long a1)]) hx hb dX0_multiple_99 hl (k := 3) rfl (by rw [ev51]; rfl) (by decide) rfl (fun ls hl => ?_)
                    replace h := mi_use ev51 h
                    refine lv_goto (tgt := 37) hx hb dX0_multiple_102 (by decide) ?_
                    exact ih _ _ _ _ _ (hA _ (Option.some.inj h).symm) hkE ls (lv_sub hl [2, 3, 1, 0, 4, 5, 6] rfl)
                  · replace h := (if_neg c50).symm.trans h
                    refine lv_aload_n hx hb dX0_multiple_89 rfl (lv_at hl 4 rfl) ?_
                    refine lv_iload hx hb dX0_multiple_90 (lv_at hl 2 rfl) ?_
                    refine lv_iload hx hb dX0_multiple_92 (lv_at hl 2 rfl) ?_
                    obtain ⟨r52, hr52, h⟩ := Option.bind_eq_some_iff.mp h
                    have hPc := hP.sub (ws' := [(h0, .inr (0, [.int t_p, .int t_a, .int t_b, .int t_from, .int t_kernelPoint, .int t_kernelOrder, .int t_points, .int t_inner, .int t_outer, .int t_makersFound, .int t_first, .int t_second]))]) [0] rfl
                    have hKc := hK.sub (tys' := []) [] rfl
                    refine vp_callSi (W.runV (As := [.int x35, .int x35]) (rest := []) ⟨hx, hb, hml, hown, hts⟩ (ctX0_sum l N dC dI  h0 t_p t_a t_b t_from t_kernelPoint t_kernelOrder t_points t_inner t_outer t_makersFound t_first t_second x35 x35 r52 hr52) (cwV 2 hts gX0_multiple_X0_sum rfl rfl rfl (by decide +kernel) ⟨Nat.le_of_ble_eq_true rfl, Nat.le_of_ble_eq_true rfl⟩) ⟨fun a U g mk q => by obtain ⟨q0, qP, qK, qN⟩ := q; exact ⟨q0, qP, va_K.moved (u := U) (U := U.calling g mk a) (Vm.Alike.refl U.vm) qK, nw_same (u := U) (U := U.calling g mk a) rfl qN⟩, va_recv hKc hPc (ci := 0) (q0 := 0) rfl rfl, fun U hU hW => ⟨rfl, by rw [hU]; exact hPc, va_K.moved hW.alike hKc, nw_warm hW hN⟩⟩ rfl rfl hl.1 rfl (lv_room (Nat.le_of_ble_eq_true rfl)) dX0_multiple_94 ⟨Nat.le_of_ble_eq_true rfl, Nat.le_of_ble_eq_true rfl⟩) (fun q9 eq9 => ?_)
                    subst q9
                    refine lv_istore (lv' := [(5, .int r52), (6, .long v48), (4, .int x34), (8, .int x37), (0, .ref h0), (1, .int a0), (2, .long a1)]) hx hb dX0_multiple_97 hl (by decide) rfl (fun ls hl => ?_)
                    obtain ⟨v53, ev53⟩ : ∃ z : Int32, z = x37 + 1 := ⟨_, rfl⟩
                    refine lv_iinc (v := v53) (lv' := [(8, .int v53), (5, .int r52), (6, .long v48), (4, .int x34), (0, .ref h0), (1, .int a0), (2, .long a1)]) hx hb dX0_multiple_99 hl (k := 3) rfl (by rw [ev53]; rfl) (by decide) rfl (fun ls hl => ?_)
                    replace h := mi_use ev53 h
                    refine lv_goto (tgt := 37) hx hb dX0_multiple_102 (by decide) ?_
                    exact ih _ _ _ _ _ (hA _ (Option.some.inj h).symm) hkE ls (lv_sub hl [3, 1, 2, 0, 4, 5, 6] rfl)
                · replace h := (if_pos c47).symm.trans h
                  refine lv_aload_n hx hb dX0_multiple_66 rfl (lv_at hl 4 rfl) ?_
                  refine lv_iload hx hb dX0_multiple_67 (lv_at hl 0 rfl) ?_
                  refine lv_iload hx hb dX0_multiple_69 (lv_at hl 1 rfl) ?_
                  obtain ⟨r54, hr54, h⟩ := Option.bind_eq_some_iff.mp h
                  have hPc := hP.sub (ws' := [(h0, .inr (0, [.int t_p, .int t_a, .int t_b, .int t_from, .int t_kernelPoint, .int t_kernelOrder, .int t_points, .int t_inner, .int t_outer, .int t_makersFound, .int t_first, .int t_second]))]) [0] rfl
                  have hKc := hK.sub (tys' := []) [] rfl
                  refine vp_callSi (W.runV (As := [.int x34, .int x35]) (rest := []) ⟨hx, hb, hml, hown, hts⟩ (ctX0_sum l N dC dI  h0 t_p t_a t_b t_from t_kernelPoint t_kernelOrder t_points t_inner t_outer t_makersFound t_first t_second x34 x35 r54 hr54) (cwV 2 hts gX0_multiple_X0_sum rfl rfl rfl (by decide +kernel) ⟨Nat.le_of_ble_eq_true rfl, Nat.le_of_ble_eq_true rfl⟩) ⟨fun a U g mk q => by obtain ⟨q0, qP, qK, qN⟩ := q; exact ⟨q0, qP, va_K.moved (u := U) (U := U.calling g mk a) (Vm.Alike.refl U.vm) qK, nw_same (u := U) (U := U.calling g mk a) rfl qN⟩, va_recv hKc hPc (ci := 0) (q0 := 0) rfl rfl, fun U hU hW => ⟨rfl, by rw [hU]; exact hPc, va_K.moved hW.alike hKc, nw_warm hW hN⟩⟩ rfl rfl hl.1 rfl (lv_room (Nat.le_of_ble_eq_true rfl)) dX0_multiple_71 ⟨Nat.le_of_ble_eq_true rfl, Nat.le_of_ble_eq_true rfl⟩) (fun q9 eq9 => ?_)
                  subst q9
                  refine lv_istore (lv' := [(4, .int r54), (5, .int x35), (6, .long x36), (8, .int x37), (0, .ref h0), (1, .int a0), (2, .long a1)]) hx hb dX0_multiple_74 hl (by decide) rfl (fun ls hl => ?_)
                  refine lv_lload hx hb dX0_multiple_76 (lv_at hl 2 rfl) ?_
                  refine lv_iconst (v := 1) hx hb dX0_multiple_78 (by decide) ?_
                  refine lv_lushr hx hb dX0_multiple_79 rfl ?_
                  refine lv_topl (fun v55 ev55 => ?_)
                  replace h := mi_use ev55 h
                  refine lv_lstore (lv' := [(6, .long v55), (4, .int r54), (5, .int x35), (8, .int x37), (0, .ref h0), (1, .int a0), (2, .long a1)]) hx hb dX0_multiple_80 hl (by decide) rfl (fun ls hl => ?_)
                  refine lv_lload hx hb dX0_multiple_82 (lv_at hl 0 rfl) ?_
                  refine lv_lconst (v := 0) hx hb dX0_multiple_84 (by decide) ?_
                  refine W.lcmp hx hb dX0_multiple_85 ?_
                  refine lv_topi (fun v56 ev56 => ?_)
                  replace h := mi_use ev56 h
                  refine lv_if_eq (tgt := 99) hx hb dX0_multiple_86 (by decide) (fun c57 => ?_) (fun c57 => ?_)
                  · replace h := (if_pos c57).symm.trans h
                    obtain ⟨v58, ev58⟩ : ∃ z : Int32, z = x37 + 1 := ⟨_, rfl⟩
                    refine lv_iinc (v := v58) (lv' := [(8, .int v58), (6, .long v55), (4, .int r54), (5, .int x35), (0, .ref h0), (1, .int a0), (2, .long a1)]) hx hb dX0_multiple_99 hl (k := 3) rfl (by rw [ev58]; rfl) (by decide) rfl (fun ls hl => ?_)
                    replace h := mi_use ev58 h
                    refine lv_goto (tgt := 37) hx hb dX0_multiple_102 (by decide) ?_
                    exact ih _ _ _ _ _ (hA _ (Option.some.inj h).symm) hkE ls (lv_sub hl [2, 3, 1, 0, 4, 5, 6] rfl)
                  · replace h := (if_neg c57).symm.trans h
                    refine lv_aload_n hx hb dX0_multiple_89 rfl (lv_at hl 4 rfl) ?_
                    refine lv_iload hx hb dX0_multiple_90 (lv_at hl 2 rfl) ?_
                    refine lv_iload hx hb dX0_multiple_92 (lv_at hl 2 rfl) ?_
                    obtain ⟨r59, hr59, h⟩ := Option.bind_eq_some_iff.mp h
                    have hPc := hP.sub (ws' := [(h0, .inr (0, [.int t_p, .int t_a, .int t_b, .int t_from, .int t_kernelPoint, .int t_kernelOrder, .int t_points, .int t_inner, .int t_outer, .int t_makersFound, .int t_first, .int t_second]))]) [0] rfl
                    have hKc := hK.sub (tys' := []) [] rfl
                    refine vp_callSi (W.runV (As := [.int x35, .int x35]) (rest := []) ⟨hx, hb, hml, hown, hts⟩ (ctX0_sum l N dC dI  h0 t_p t_a t_b t_from t_kernelPoint t_kernelOrder t_points t_inner t_outer t_makersFound t_first t_second x35 x35 r59 hr59) (cwV 2 hts gX0_multiple_X0_sum rfl rfl rfl (by decide +kernel) ⟨Nat.le_of_ble_eq_true rfl, Nat.le_of_ble_eq_true rfl⟩) ⟨fun a U g mk q => by obtain ⟨q0, qP, qK, qN⟩ := q; exact ⟨q0, qP, va_K.moved (u := U) (U := U.calling g mk a) (Vm.Alike.refl U.vm) qK, nw_same (u := U) (U := U.calling g mk a) rfl qN⟩, va_recv hKc hPc (ci := 0) (q0 := 0) rfl rfl, fun U hU hW => ⟨rfl, by rw [hU]; exact hPc, va_K.moved hW.alike hKc, nw_warm hW hN⟩⟩ rfl rfl hl.1 rfl (lv_room (Nat.le_of_ble_eq_true rfl)) dX0_multiple_94 ⟨Nat.le_of_ble_eq_true rfl, Nat.le_of_ble_eq_true rfl⟩) (fun q9 eq9 => ?_)
                    subst q9
                    refine lv_istore (lv' := [(5, .int r59), (6, .long v55), (4, .int r54), (8, .int x37), (0, .ref h0), (1, .int a0), (2, .long a1)]) hx hb dX0_multiple_97 hl (by decide) rfl (fun ls hl => ?_)
                    obtain ⟨v60, ev60⟩ : ∃ z : Int32, z = x37 + 1 := ⟨_, rfl⟩
                    refine lv_iinc (v := v60) (lv' := [(8, .int v60), (5, .int r59), (6, .long v55), (4, .int r54), (0, .ref h0), (1, .int a0), (2, .long a1)]) hx hb dX0_multiple_99 hl (k := 3) rfl (by rw [ev60]; rfl) (by decide) rfl (fun ls hl => ?_)
                    replace h := mi_use ev60 h
                    refine lv_goto (tgt := 37) hx hb dX0_multiple_102 (by decide) ?_
                    exact ih _ _ _ _ _ (hA _ (Option.some.inj h).symm) hkE ls (lv_sub hl [3, 1, 2, 0, 4, 5, 6] rfl)
      obtain ⟨o61, ho61, h⟩ := Option.bind_eq_some_iff.mp h
      refine L37 N _ _ _ _ o61 ho61 ?_ ls (lv_sub hl [3, 2, 1, 0, 4, 5, 6] rfl)
      intro y38 y39 y40 y41 eo ls hl
      subst eo
      try dsimp only at h
      refine lv_iload hx hb dX0_multiple_105 (lv_at hl 0 rfl) ?_
      have hv : y38 = rr := Option.some.inj h
      exact W.iret (v := y38) hx hb hr (fun t ht hW => ⟨_, rfl, hv, ht⟩) (fun q hq => absurd hq List.not_mem_nil) dX0_multiple_107
  · replace h := (if_neg c2).symm.trans h
    refine lv_aload_n hx hb dX0_multiple_9 rfl (lv_at hl 1 rfl) ?_
    refine lv_iload_n hx hb dX0_multiple_10 rfl (lv_at hl 2 rfl) ?_
    obtain ⟨r62, hr62, h⟩ := Option.bind_eq_some_iff.mp h
    have hPc := hP.sub (ws' := [(h0, .inr (0, [.int t_p, .int t_a, .int t_b, .int t_from, .int t_kernelPoint, .int t_kernelOrder, .int t_points, .int t_inner, .int t_outer, .int t_makersFound, .int t_first, .int t_second]))]) [0] rfl
    have hKc := hK.sub (tys' := []) [] rfl
    refine vp_callSi (W.runV (As := [.int a0]) (rest := []) ⟨hx, hb, hml, hown, hts⟩ (ctX0_opposite l N dC dI  h0 t_p t_a t_b t_from t_kernelPoint t_kernelOrder t_points t_inner t_outer t_makersFound t_first t_second a0 r62 hr62) (cwV 1 hts gX0_multiple_X0_opposite rfl rfl rfl (by decide +kernel) ⟨Nat.le_of_ble_eq_true rfl, Nat.le_of_ble_eq_true rfl⟩) ⟨fun a U g mk q => by obtain ⟨q0, qP, qK, qN⟩ := q; exact ⟨q0, qP, va_K.moved (u := U) (U := U.calling g mk a) (Vm.Alike.refl U.vm) qK, nw_same (u := U) (U := U.calling g mk a) rfl qN⟩, va_recv hKc hPc (ci := 0) (q0 := 0) rfl rfl, fun U hU hW => ⟨rfl, by rw [hU]; exact hPc, va_K.moved hW.alike hKc, nw_warm hW hN⟩⟩ rfl rfl hl.1 rfl (lv_room (Nat.le_of_ble_eq_true rfl)) dX0_multiple_11 ⟨Nat.le_of_ble_eq_true rfl, Nat.le_of_ble_eq_true rfl⟩) (fun q9 eq9 => ?_)
    subst q9
    refine lv_goto (tgt := 18) hx hb dX0_multiple_14 (by decide) ?_
    refine lv_istore (lv' := [(5, .int r62), (4, .int (-1)), (0, .ref h0), (1, .int a0), (2, .long a1)]) hx hb dX0_multiple_18 hl (by decide) rfl (fun ls hl => ?_)
    refine lv_lload_n hx hb dX0_multiple_20 rfl (lv_at hl 4 rfl) ?_
    refine lv_lconst (v := 0) hx hb dX0_multiple_21 (by decide) ?_
    refine W.lcmp hx hb dX0_multiple_22 ?_
    refine lv_topi (fun v63 ev63 => ?_)
    replace h := mi_use ev63 h
    refine lv_if_ge (tgt := 31) hx hb dX0_multiple_23 (by decide) (fun c64 => ?_) (fun c64 => ?_)
    · replace h := (if_pos c64).symm.trans h
      refine lv_lload_n hx hb dX0_multiple_31 rfl (lv_at hl 4 rfl) ?_
      refine lv_lstore (lv' := [(6, .long a1), (5, .int r62), (4, .int (-1)), (0, .ref h0), (1, .int a0), (2, .long a1)]) hx hb dX0_multiple_32 hl (by decide) rfl (fun ls hl => ?_)
      refine lv_iconst (v := 0) hx hb dX0_multiple_34 (by decide) ?_
      refine lv_istore (lv' := [(8, .int 0), (6, .long a1), (5, .int r62), (4, .int (-1)), (0, .ref h0), (1, .int a0), (2, .long a1)]) hx hb dX0_multiple_35 hl (by decide) rfl (fun ls hl => ?_)
      have L37 : ∀ (n : Nat) (x65 : Int32) (x66 : Int32) (x67 : Int64) (x68 : Int32) (o : Int32 × Int32 × Int64 × Int32), mi_run (mX0_multiple_b37 N t_p t_a) n (x65, x66, x67, x68) = some o → (∀ (y69 : Int32) (y70 : Int32) (y71 : Int64) (y72 : Int32), o = (y69, y70, y71, y72) → ∀ ls, lv_has ls 9 [(4, .int y69), (5, .int y70), (6, .long y71), (8, .int y72), (0, .ref h0), (1, .int a0), (2, .long a1)] → W p l e (headSpec wsX0_multiple rmX0_multiple).room s m (([.ref h0, .int a0, .long a1] : List Value).toArray) below meth c s.heap [] 0 0 (MQ below (vp_Si (fun r => r = rr)) (([.ref h0, .int a0, .long a1] : List Value).toArray) s 0 0 (fun _ => False)) (F0 m 105 ls [])) → ∀ ls, lv_has ls 9 [(4, .int x65), (5, .int x66), (6, .long x67), (8, .int x68), (0, .ref h0), (1, .int a0), (2, .long a1)] → W p l e (headSpec wsX0_multiple rmX0_multiple).room s m (([.ref h0, .int a0, .long a1] : List Value).toArray) below meth c s.heap [] 0 0 (MQ below (vp_Si (fun r => r = rr)) (([.ref h0, .int a0, .long a1] : List Value).toArray) s 0 0 (fun _ => False)) (F0 m 37 ls []) := by
        intro n
        induction n with
        | zero => intro x65 x66 x67 x68 o h; exact absurd h (mi_run_0 _ _ _)
        | succ n ih =>
          intro x65 x66 x67 x68 o h hkE ls hl
          obtain ⟨w, h, hA, hB⟩ := mi_run_s h
          dsimp only [mX0_multiple_b37] at h
          refine lv_iload hx hb dX0_multiple_37 (lv_at hl 3 rfl) ?_
          refine lv_bipush (v := 64) hx hb dX0_multiple_39 (by decide) ?_
          refine lv_icmp_ge (tgt := 105) hx hb dX0_multiple_41 (by decide) (fun c73 => ?_) (fun c73 => ?_)
          · replace h := (if_pos c73).symm.trans h
            exact hkE _ _ _ _ (hB _ (Option.some.inj h).symm) ls (lv_sub hl [0, 1, 2, 3, 4, 5, 6] rfl)
          · replace h := (if_neg c73).symm.trans h
            refine lv_lload hx hb dX0_multiple_44 (lv_at hl 2 rfl) ?_
            refine lv_lconst (v := 0) hx hb dX0_multiple_46 (by decide) ?_
            refine W.lcmp hx hb dX0_multiple_47 ?_
            refine lv_topi (fun v74 ev74 => ?_)
            replace h := mi_use ev74 h
            refine lv_if_eq (tgt := 105) hx hb dX0_multiple_48 (by decide) (fun c75 => ?_) (fun c75 => ?_)
            · replace h := (if_pos c75).symm.trans h
              exact hkE _ _ _ _ (hB _ (Option.some.inj h).symm) ls (lv_sub hl [0, 1, 2, 3, 4, 5, 6] rfl)
            · replace h := (if_neg c75).symm.trans h
              refine lv_iload hx hb dX0_multiple_51 (lv_at hl 1 rfl) ?_
              refine lv_iconst (v := (-1)) hx hb dX0_multiple_53 (by decide) ?_
              refine lv_icmp_eq (tgt := 105) hx hb dX0_multiple_54 (by decide) (fun c76 => ?_) (fun c76 => ?_)
              · replace h := (if_pos c76).symm.trans h
                exact hkE _ _ _ _ (hB _ (Option.some.inj h).symm) ls (lv_sub hl [0, 1, 2, 3, 4, 5, 6] rfl)
              · replace h := (if_neg c76).symm.trans h
                refine lv_lload hx hb dX0_multiple_57 (lv_at hl 2 rfl) ?_
                refine lv_lconst (v := 1) hx hb dX0_multiple_59 (by decide) ?_
                refine lv_land hx hb dX0_multiple_60 ?_
                refine lv_lconst (v := 1) hx hb dX0_multiple_61 (by decide) ?_
                refine W.lcmp hx hb dX0_multiple_62 ?_
                refine lv_topi (fun v77 ev77 => ?_)
                replace h := mi_use ev77 h
                refine lv_if_ne (tgt := 76) hx hb dX0_multiple_63 (by decide) (fun c78 => ?_) (fun c78 => ?_)
                · replace h := (if_neg c78).symm.trans h
                  refine lv_lload hx hb dX0_multiple_76 (lv_at hl 2 rfl) ?_
                  refine lv_iconst (v := 1) hx hb dX0_multiple_78 (by decide) ?_
                  refine lv_lushr hx hb dX0_multiple_79 rfl ?_
                  refine lv_topl (fun v79 ev79 => ?_)
                  replace h := mi_use ev79 h
                  refine lv_lstore (lv' := [(6, .long v79), (4, .int x65), (5, .int x66), (8, .int x68), (0, .ref h0), (1, .int a0), (2, .long a1)]) hx hb dX0_multiple_80 hl (by decide) rfl (fun ls hl => ?_)
                  refine lv_lload hx hb dX0_multiple_82 (lv_at hl 0 rfl) ?_
                  refine lv_lconst (v := 0) hx hb dX0_multiple_84 (by decide) ?_
                  refine W.lcmp hx hb dX0_multiple_85 ?_
                  refine lv_topi (fun v80 ev80 => ?_)
                  replace h := mi_use ev80 h
                  refine lv_if_eq (tgt := 99) hx hb dX0_multiple_86 (by decide) (fun c81 => ?_) (fun c81 => ?_)
                  · replace h := (if_pos c81).symm.trans h
                    obtain ⟨v82, ev82⟩ : ∃ z : Int32, z = x68 + 1 := ⟨_, rfl⟩
                    refine lv_iinc (v := v82) (lv' := [(8, .int v82), (6, .long v79), (4, .int x65), (5, .int x66), (0, .ref h0), (1, .int a0), (2, .long a1)]) hx hb dX0_multiple_99 hl (k := 3) rfl (by rw [ev82]; rfl) (by decide) rfl (fun ls hl => ?_)
                    replace h := mi_use ev82 h
                    refine lv_goto (tgt := 37) hx hb dX0_multiple_102 (by decide) ?_
                    exact ih _ _ _ _ _ (hA _ (Option.some.inj h).symm) hkE ls (lv_sub hl [2, 3, 1, 0, 4, 5, 6] rfl)
                  · replace h := (if_neg c81).symm.trans h
                    refine lv_aload_n hx hb dX0_multiple_89 rfl (lv_at hl 4 rfl) ?_
                    refine lv_iload hx hb dX0_multiple_90 (lv_at hl 2 rfl) ?_
                    refine lv_iload hx hb dX0_multiple_92 (lv_at hl 2 rfl) ?_
                    obtain ⟨r83, hr83, h⟩ := Option.bind_eq_some_iff.mp h
                    have hPc := hP.sub (ws' := [(h0, .inr (0, [.int t_p, .int t_a, .int t_b, .int t_from, .int t_kernelPoint, .int t_kernelOrder, .int t_points, .int t_inner, .int t_outer, .int t_makersFound, .int t_first, .int t_second]))]) [0] rfl
                    have hKc := hK.sub (tys' := []) [] rfl
                    refine vp_callSi (W.runV (As := [.int x66, .int x66]) (rest := []) ⟨hx, hb, hml, hown, hts⟩ (ctX0_sum l N dC dI  h0 t_p t_a t_b t_from t_kernelPoint t_kernelOrder t_points t_inner t_outer t_makersFound t_first t_second x66 x66 r83 hr83) (cwV 2 hts gX0_multiple_X0_sum rfl rfl rfl (by decide +kernel) ⟨Nat.le_of_ble_eq_true rfl, Nat.le_of_ble_eq_true rfl⟩) ⟨fun a U g mk q => by obtain ⟨q0, qP, qK, qN⟩ := q; exact ⟨q0, qP, va_K.moved (u := U) (U := U.calling g mk a) (Vm.Alike.refl U.vm) qK, nw_same (u := U) (U := U.calling g mk a) rfl qN⟩, va_recv hKc hPc (ci := 0) (q0 := 0) rfl rfl, fun U hU hW => ⟨rfl, by rw [hU]; exact hPc, va_K.moved hW.alike hKc, nw_warm hW hN⟩⟩ rfl rfl hl.1 rfl (lv_room (Nat.le_of_ble_eq_true rfl)) dX0_multiple_94 ⟨Nat.le_of_ble_eq_true rfl, Nat.le_of_ble_eq_true rfl⟩) (fun q9 eq9 => ?_)
                    subst q9
                    refine lv_istore (lv' := [(5, .int r83), (6, .long v79), (4, .int x65), (8, .int x68), (0, .ref h0), (1, .int a0), (2, .long a1)]) hx hb dX0_multiple_97 hl (by decide) rfl (fun ls hl => ?_)
                    obtain ⟨v84, ev84⟩ : ∃ z : Int32, z = x68 + 1 := ⟨_, rfl⟩
                    refine lv_iinc (v := v84) (lv' := [(8, .int v84), (5, .int r83), (6, .long v79), (4, .int x65), (0, .ref h0), (1, .int a0), (2, .long a1)]) hx hb dX0_multiple_99 hl (k := 3) rfl (by rw [ev84]; rfl) (by decide) rfl (fun ls hl => ?_)
                    replace h := mi_use ev84 h
                    refine lv_goto (tgt := 37) hx hb dX0_multiple_102 (by decide) ?_
                    exact ih _ _ _ _ _ (hA _ (Option.some.inj h).symm) hkE ls (lv_sub hl [3, 1, 2, 0, 4, 5, 6] rfl)
                · replace h := (if_pos c78).symm.trans h
                  refine lv_aload_n hx hb dX0_multiple_66 rfl (lv_at hl 4 rfl) ?_
                  refine lv_iload hx hb dX0_multiple_67 (lv_at hl 0 rfl) ?_
                  refine lv_iload hx hb dX0_multiple_69 (lv_at hl 1 rfl) ?_
                  obtain ⟨r85, hr85, h⟩ := Option.bind_eq_some_iff.mp h
                  have hPc := hP.sub (ws' := [(h0, .inr (0, [.int t_p, .int t_a, .int t_b, .int t_from, .int t_kernelPoint, .int t_kernelOrder, .int t_points, .int t_inner, .int t_outer, .int t_makersFound, .int t_first, .int t_second]))]) [0] rfl
                  have hKc := hK.sub (tys' := []) [] rfl
                  refine vp_callSi (W.runV (As := [.int x65, .int x66]) (rest := []) ⟨hx, hb, hml, hown, hts⟩ (ctX0_sum l N dC dI  h0 t_p t_a t_b t_from t_kernelPoint t_kernelOrder t_points t_inner t_outer t_makersFound t_first t_second x65 x66 r85 hr85) (cwV 2 hts gX0_multiple_X0_sum rfl rfl rfl (by decide +kernel) ⟨Nat.le_of_ble_eq_true rfl, Nat.le_of_ble_eq_true rfl⟩) ⟨fun a U g mk q => by obtain ⟨q0, qP, qK, qN⟩ := q; exact ⟨q0, qP, va_K.moved (u := U) (U := U.calling g mk a) (Vm.Alike.refl U.vm) qK, nw_same (u := U) (U := U.calling g mk a) rfl qN⟩, va_recv hKc hPc (ci := 0) (q0 := 0) rfl rfl, fun U hU hW => ⟨rfl, by rw [hU]; exact hPc, va_K.moved hW.alike hKc, nw_warm hW hN⟩⟩ rfl rfl hl.1 rfl (lv_room (Nat.le_of_ble_eq_true rfl)) dX0_multiple_71 ⟨Nat.le_of_ble_eq_true rfl, Nat.le_of_ble_eq_true rfl⟩) (fun q9 eq9 => ?_)
                  subst q9
                  refine lv_istore (lv' := [(4, .int r85), (5, .int x66), (6, .long x67), (8, .int x68), (0, .ref h0), (1, .int a0), (2, .long a1)]) hx hb dX0_multiple_74 hl (by decide) rfl (fun ls hl => ?_)
                  refine lv_lload hx hb dX0_multiple_76 (lv_at hl 2 rfl) ?_
                  refine lv_iconst (v := 1) hx hb dX0_multiple_78 (by decide) ?_
                  refine lv_lushr hx hb dX0_multiple_79 rfl ?_
                  refine lv_topl (fun v86 ev86 => ?_)
                  replace h := mi_use ev86 h
                  refine lv_lstore (lv' := [(6, .long v86), (4, .int r85), (5, .int x66), (8, .int x68), (0, .ref h0), (1, .int a0), (2, .long a1)]) hx hb dX0_multiple_80 hl (by decide) rfl (fun ls hl => ?_)
                  refine lv_lload hx hb dX0_multiple_82 (lv_at hl 0 rfl) ?_
                  refine lv_lconst (v := 0) hx hb dX0_multiple_84 (by decide) ?_
                  refine W.lcmp hx hb dX0_multiple_85 ?_
                  refine lv_topi (fun v87 ev87 => ?_)
                  replace h := mi_use ev87 h
                  refine lv_if_eq (tgt := 99) hx hb dX0_multiple_86 (by decide) (fun c88 => ?_) (fun c88 => ?_)
                  · replace h := (if_pos c88).symm.trans h
                    obtain ⟨v89, ev89⟩ : ∃ z : Int32, z = x68 + 1 := ⟨_, rfl⟩
                    refine lv_iinc (v := v89) (lv' := [(8, .int v89), (6, .long v86), (4, .int r85), (5, .int x66), (0, .ref h0), (1, .int a0), (2, .long a1)]) hx hb dX0_multiple_99 hl (k := 3) rfl (by rw [ev89]; rfl) (by decide) rfl (fun ls hl => ?_)
                    replace h := mi_use ev89 h
                    refine lv_goto (tgt := 37) hx hb dX0_multiple_102 (by decide) ?_
                    exact ih _ _ _ _ _ (hA _ (Option.some.inj h).symm) hkE ls (lv_sub hl [2, 3, 1, 0, 4, 5, 6] rfl)
                  · replace h := (if_neg c88).symm.trans h
                    refine lv_aload_n hx hb dX0_multiple_89 rfl (lv_at hl 4 rfl) ?_
                    refine lv_iload hx hb dX0_multiple_90 (lv_at hl 2 rfl) ?_
                    refine lv_iload hx hb dX0_multiple_92 (lv_at hl 2 rfl) ?_
                    obtain ⟨r90, hr90, h⟩ := Option.bind_eq_some_iff.mp h
                    have hPc := hP.sub (ws' := [(h0, .inr (0, [.int t_p, .int t_a, .int t_b, .int t_from, .int t_kernelPoint, .int t_kernelOrder, .int t_points, .int t_inner, .int t_outer, .int t_makersFound, .int t_first, .int t_second]))]) [0] rfl
                    have hKc := hK.sub (tys' := []) [] rfl
                    refine vp_callSi (W.runV (As := [.int x66, .int x66]) (rest := []) ⟨hx, hb, hml, hown, hts⟩ (ctX0_sum l N dC dI  h0 t_p t_a t_b t_from t_kernelPoint t_kernelOrder t_points t_inner t_outer t_makersFound t_first t_second x66 x66 r90 hr90) (cwV 2 hts gX0_multiple_X0_sum rfl rfl rfl (by decide +kernel) ⟨Nat.le_of_ble_eq_true rfl, Nat.le_of_ble_eq_true rfl⟩) ⟨fun a U g mk q => by obtain ⟨q0, qP, qK, qN⟩ := q; exact ⟨q0, qP, va_K.moved (u := U) (U := U.calling g mk a) (Vm.Alike.refl U.vm) qK, nw_same (u := U) (U := U.calling g mk a) rfl qN⟩, va_recv hKc hPc (ci := 0) (q0 := 0) rfl rfl, fun U hU hW => ⟨rfl, by rw [hU]; exact hPc, va_K.moved hW.alike hKc, nw_warm hW hN⟩⟩ rfl rfl hl.1 rfl (lv_room (Nat.le_of_ble_eq_true rfl)) dX0_multiple_94 ⟨Nat.le_of_ble_eq_true rfl, Nat.le_of_ble_eq_true rfl⟩) (fun q9 eq9 => ?_)
                    subst q9
                    refine lv_istore (lv' := [(5, .int r90), (6, .long v86), (4, .int r85), (8, .int x68), (0, .ref h0), (1, .int a0), (2, .long a1)]) hx hb dX0_multiple_97 hl (by decide) rfl (fun ls hl => ?_)
                    obtain ⟨v91, ev91⟩ : ∃ z : Int32, z = x68 + 1 := ⟨_, rfl⟩
                    refine lv_iinc (v := v91) (lv' := [(8, .int v91), (5, .int r90), (6, .long v86), (4, .int r85), (0, .ref h0), (1, .int a0), (2, .long a1)]) hx hb dX0_multiple_99 hl (k := 3) rfl (by rw [ev91]; rfl) (by decide) rfl (fun ls hl => ?_)
                    replace h := mi_use ev91 h
                    refine lv_goto (tgt := 37) hx hb dX0_multiple_102 (by decide) ?_
                    exact ih _ _ _ _ _ (hA _ (Option.some.inj h).symm) hkE ls (lv_sub hl [3, 1, 2, 0, 4, 5, 6] rfl)
      obtain ⟨o92, ho92, h⟩ := Option.bind_eq_some_iff.mp h
      refine L37 N _ _ _ _ o92 ho92 ?_ ls (lv_sub hl [3, 2, 1, 0, 4, 5, 6] rfl)
      intro y69 y70 y71 y72 eo ls hl
      subst eo
      try dsimp only at h
      refine lv_iload hx hb dX0_multiple_105 (lv_at hl 0 rfl) ?_
      have hv : y69 = rr := Option.some.inj h
      exact W.iret (v := y69) hx hb hr (fun t ht hW => ⟨_, rfl, hv, ht⟩) (fun q hq => absurd hq List.not_mem_nil) dX0_multiple_107
    · replace h := (if_neg c64).symm.trans h
      refine lv_lload_n hx hb dX0_multiple_26 rfl (lv_at hl 4 rfl) ?_
      refine lv_lneg hx hb dX0_multiple_27 ?_
      refine lv_goto (tgt := 32) hx hb dX0_multiple_28 (by decide) ?_
      refine lv_topl (fun v93 ev93 => ?_)
      replace h := mi_use ev93 h
      refine lv_lstore (lv' := [(6, .long v93), (5, .int r62), (4, .int (-1)), (0, .ref h0), (1, .int a0), (2, .long a1)]) hx hb dX0_multiple_32 hl (by decide) rfl (fun ls hl => ?_)
      refine lv_iconst (v := 0) hx hb dX0_multiple_34 (by decide) ?_
      refine lv_istore (lv' := [(8, .int 0), (6, .long v93), (5, .int r62), (4, .int (-1)), (0, .ref h0), (1, .int a0), (2, .long a1)]) hx hb dX0_multiple_35 hl (by decide) rfl (fun ls hl => ?_)
      have L37 : ∀ (n : Nat) (x94 : Int32) (x95 : Int32) (x96 : Int64) (x97 : Int32) (o : Int32 × Int32 × Int64 × Int32), mi_run (mX0_multiple_b37 N t_p t_a) n (x94, x95, x96, x97) = some o → (∀ (y98 : Int32) (y99 : Int32) (y100 : Int64) (y101 : Int32), o = (y98, y99, y100, y101) → ∀ ls, lv_has ls 9 [(4, .int y98), (5, .int y99), (6, .long y100), (8, .int y101), (0, .ref h0), (1, .int a0), (2, .long a1)] → W p l e (headSpec wsX0_multiple rmX0_multiple).room s m (([.ref h0, .int a0, .long a1] : List Value).toArray) below meth c s.heap [] 0 0 (MQ below (vp_Si (fun r => r = rr)) (([.ref h0, .int a0, .long a1] : List Value).toArray) s 0 0 (fun _ => False)) (F0 m 105 ls [])) → ∀ ls, lv_has ls 9 [(4, .int x94), (5, .int x95), (6, .long x96), (8, .int x97), (0, .ref h0), (1, .int a0), (2, .long a1)] → W p l e (headSpec wsX0_multiple rmX0_multiple).room s m (([.ref h0, .int a0, .long a1] : List Value).toArray) below meth c s.heap [] 0 0 (MQ below (vp_Si (fun r => r = rr)) (([.ref h0, .int a0, .long a1] : List Value).toArray) s 0 0 (fun _ => False)) (F0 m 37 ls []) := by
        intro n
        induction n with
        | zero => intro x94 x95 x96 x97 o h; exact absurd h (mi_run_0 _ _ _)
        | succ n ih =>
          intro x94 x95 x96 x97 o h hkE ls hl
          obtain ⟨w, h, hA, hB⟩ := mi_run_s h
          dsimp only [mX0_multiple_b37] at h
          refine lv_iload hx hb dX0_multiple_37 (lv_at hl 3 rfl) ?_
          refine lv_bipush (v := 64) hx hb dX0_multiple_39 (by decide) ?_
          refine lv_icmp_ge (tgt := 105) hx hb dX0_multiple_41 (by decide) (fun c102 => ?_) (fun c102 => ?_)
          · replace h := (if_pos c102).symm.trans h
            exact hkE _ _ _ _ (hB _ (Option.some.inj h).symm) ls (lv_sub hl [0, 1, 2, 3, 4, 5, 6] rfl)
          · replace h := (if_neg c102).symm.trans h
            refine lv_lload hx hb dX0_multiple_44 (lv_at hl 2 rfl) ?_
            refine lv_lconst (v := 0) hx hb dX0_multiple_46 (by decide) ?_
            refine W.lcmp hx hb dX0_multiple_47 ?_
            refine lv_topi (fun v103 ev103 => ?_)
            replace h := mi_use ev103 h
            refine lv_if_eq (tgt := 105) hx hb dX0_multiple_48 (by decide) (fun c104 => ?_) (fun c104 => ?_)
            · replace h := (if_pos c104).symm.trans h
              exact hkE _ _ _ _ (hB _ (Option.some.inj h).symm) ls (lv_sub hl [0, 1, 2, 3, 4, 5, 6] rfl)
            · replace h := (if_neg c104).symm.trans h
              refine lv_iload hx hb dX0_multiple_51 (lv_at hl 1 rfl) ?_
              refine lv_iconst (v := (-1)) hx hb dX0_multiple_53 (by decide) ?_
              refine lv_icmp_eq (tgt := 105) hx hb dX0_multiple_54 (by decide) (fun c105 => ?_) (fun c105 => ?_)
              · replace h := (if_pos c105).symm.trans h
                exact hkE _ _ _ _ (hB _ (Option.some.inj h).symm) ls (lv_sub hl [0, 1, 2, 3, 4, 5, 6] rfl)
              · replace h := (if_neg c105).symm.trans h
                refine lv_lload hx hb dX0_multiple_57 (lv_at hl 2 rfl) ?_
                refine lv_lconst (v := 1) hx hb dX0_multiple_59 (by decide) ?_
                refine lv_land hx hb dX0_multiple_60 ?_
                refine lv_lconst (v := 1) hx hb dX0_multiple_61 (by decide) ?_
                refine W.lcmp hx hb dX0_multiple_62 ?_
                refine lv_topi (fun v106 ev106 => ?_)
                replace h := mi_use ev106 h
                refine lv_if_ne (tgt := 76) hx hb dX0_multiple_63 (by decide) (fun c107 => ?_) (fun c107 => ?_)
                · replace h := (if_neg c107).symm.trans h
                  refine lv_lload hx hb dX0_multiple_76 (lv_at hl 2 rfl) ?_
                  refine lv_iconst (v := 1) hx hb dX0_multiple_78 (by decide) ?_
                  refine lv_lushr hx hb dX0_multiple_79 rfl ?_
                  refine lv_topl (fun v108 ev108 => ?_)
                  replace h := mi_use ev108 h
                  refine lv_lstore (lv' := [(6, .long v108), (4, .int x94), (5, .int x95), (8, .int x97), (0, .ref h0), (1, .int a0), (2, .long a1)]) hx hb dX0_multiple_80 hl (by decide) rfl (fun ls hl => ?_)
                  refine lv_lload hx hb dX0_multiple_82 (lv_at hl 0 rfl) ?_
                  refine lv_lconst (v := 0) hx hb dX0_multiple_84 (by decide) ?_
                  refine W.lcmp hx hb dX0_multiple_85 ?_
                  refine lv_topi (fun v109 ev109 => ?_)
                  replace h := mi_use ev109 h
                  refine lv_if_eq (tgt := 99) hx hb dX0_multiple_86 (by decide) (fun c110 => ?_) (fun c110 => ?_)
                  · replace h := (if_pos c110).symm.trans h
                    obtain ⟨v111, ev111⟩ : ∃ z : Int32, z = x97 + 1 := ⟨_, rfl⟩
                    refine lv_iinc (v := v111) (lv' := [(8, .int v111), (6, .long v108), (4, .int x94), (5, .int x95), (0, .ref h0), (1, .int a0), (2, .long a1)]) hx hb dX0_multiple_99 hl (k := 3) rfl (by rw [ev111]; rfl) (by decide) rfl (fun ls hl => ?_)
                    replace h := mi_use ev111 h
                    refine lv_goto (tgt := 37) hx hb dX0_multiple_102 (by decide) ?_
                    exact ih _ _ _ _ _ (hA _ (Option.some.inj h).symm) hkE ls (lv_sub hl [2, 3, 1, 0, 4, 5, 6] rfl)
                  · replace h := (if_neg c110).symm.trans h
                    refine lv_aload_n hx hb dX0_multiple_89 rfl (lv_at hl 4 rfl) ?_
                    refine lv_iload hx hb dX0_multiple_90 (lv_at hl 2 rfl) ?_
                    refine lv_iload hx hb dX0_multiple_92 (lv_at hl 2 rfl) ?_
                    obtain ⟨r112, hr112, h⟩ := Option.bind_eq_some_iff.mp h
                    have hPc := hP.sub (ws' := [(h0, .inr (0, [.int t_p, .int t_a, .int t_b, .int t_from, .int t_kernelPoint, .int t_kernelOrder, .int t_points, .int t_inner, .int t_outer, .int t_makersFound, .int t_first, .int t_second]))]) [0] rfl
                    have hKc := hK.sub (tys' := []) [] rfl
                    refine vp_callSi (W.runV (As := [.int x95, .int x95]) (rest := []) ⟨hx, hb, hml, hown, hts⟩ (ctX0_sum l N dC dI  h0 t_p t_a t_b t_from t_kernelPoint t_kernelOrder t_points t_inner t_outer t_makersFound t_first t_second x95 x95 r112 hr112) (cwV 2 hts gX0_multiple_X0_sum rfl rfl rfl (by decide +kernel) ⟨Nat.le_of_ble_eq_true rfl, Nat.le_of_ble_eq_true rfl⟩) ⟨fun a U g mk q => by obtain ⟨q0, qP, qK, qN⟩ := q; exact ⟨q0, qP, va_K.moved (u := U) (U := U.calling g mk a) (Vm.Alike.refl U.vm) qK, nw_same (u := U) (U := U.calling g mk a) rfl qN⟩, va_recv hKc hPc (ci := 0) (q0 := 0) rfl rfl, fun U hU hW => ⟨rfl, by rw [hU]; exact hPc, va_K.moved hW.alike hKc, nw_warm hW hN⟩⟩ rfl rfl hl.1 rfl (lv_room (Nat.le_of_ble_eq_true rfl)) dX0_multiple_94 ⟨Nat.le_of_ble_eq_true rfl, Nat.le_of_ble_eq_true rfl⟩) (fun q9 eq9 => ?_)
                    subst q9
                    refine lv_istore (lv' := [(5, .int r112), (6, .long v108), (4, .int x94), (8, .int x97), (0, .ref h0), (1, .int a0), (2, .long a1)]) hx hb dX0_multiple_97 hl (by decide) rfl (fun ls hl => ?_)
                    obtain ⟨v113, ev113⟩ : ∃ z : Int32, z = x97 + 1 := ⟨_, rfl⟩
                    refine lv_iinc (v := v113) (lv' := [(8, .int v113), (5, .int r112), (6, .long v108), (4, .int x94), (0, .ref h0), (1, .int a0), (2, .long a1)]) hx hb dX0_multiple_99 hl (k := 3) rfl (by rw [ev113]; rfl) (by decide) rfl (fun ls hl => ?_)
                    replace h := mi_use ev113 h
                    refine lv_goto (tgt := 37) hx hb dX0_multiple_102 (by decide) ?_
                    exact ih _ _ _ _ _ (hA _ (Option.some.inj h).symm) hkE ls (lv_sub hl [3, 1, 2, 0, 4, 5, 6] rfl)
                · replace h := (if_pos c107).symm.trans h
                  refine lv_aload_n hx hb dX0_multiple_66 rfl (lv_at hl 4 rfl) ?_
                  refine lv_iload hx hb dX0_multiple_67 (lv_at hl 0 rfl) ?_
                  refine lv_iload hx hb dX0_multiple_69 (lv_at hl 1 rfl) ?_
                  obtain ⟨r114, hr114, h⟩ := Option.bind_eq_some_iff.mp h
                  have hPc := hP.sub (ws' := [(h0, .inr (0, [.int t_p, .int t_a, .int t_b, .int t_from, .int t_kernelPoint, .int t_kernelOrder, .int t_points, .int t_inner, .int t_outer, .int t_makersFound, .int t_first, .int t_second]))]) [0] rfl
                  have hKc := hK.sub (tys' := []) [] rfl
                  refine vp_callSi (W.runV (As := [.int x94, .int x95]) (rest := []) ⟨hx, hb, hml, hown, hts⟩ (ctX0_sum l N dC dI  h0 t_p t_a t_b t_from t_kernelPoint t_kernelOrder t_points t_inner t_outer t_makersFound t_first t_second x94 x95 r114 hr114) (cwV 2 hts gX0_multiple_X0_sum rfl rfl rfl (by decide +kernel) ⟨Nat.le_of_ble_eq_true rfl, Nat.le_of_ble_eq_true rfl⟩) ⟨fun a U g mk q => by obtain ⟨q0, qP, qK, qN⟩ := q; exact ⟨q0, qP, va_K.moved (u := U) (U := U.calling g mk a) (Vm.Alike.refl U.vm) qK, nw_same (u := U) (U := U.calling g mk a) rfl qN⟩, va_recv hKc hPc (ci := 0) (q0 := 0) rfl rfl, fun U hU hW => ⟨rfl, by rw [hU]; exact hPc, va_K.moved hW.alike hKc, nw_warm hW hN⟩⟩ rfl rfl hl.1 rfl (lv_room (Nat.le_of_ble_eq_true rfl)) dX0_multiple_71 ⟨Nat.le_of_ble_eq_true rfl, Nat.le_of_ble_eq_true rfl⟩) (fun q9 eq9 => ?_)
                  subst q9
                  refine lv_istore (lv' := [(4, .int r114), (5, .int x95), (6, .long x96), (8, .int x97), (0, .ref h0), (1, .int a0), (2, .long a1)]) hx hb dX0_multiple_74 hl (by decide) rfl (fun ls hl => ?_)
                  refine lv_lload hx hb dX0_multiple_76 (lv_at hl 2 rfl) ?_
                  refine lv_iconst (v := 1) hx hb dX0_multiple_78 (by decide) ?_
                  refine lv_lushr hx hb dX0_multiple_79 rfl ?_
                  refine lv_topl (fun v115 ev115 => ?_)
                  replace h := mi_use ev115 h
                  refine lv_lstore (lv' := [(6, .long v115), (4, .int r114), (5, .int x95), (8, .int x97), (0, .ref h0), (1, .int a0), (2, .long a1)]) hx hb dX0_multiple_80 hl (by decide) rfl (fun ls hl => ?_)
                  refine lv_lload hx hb dX0_multiple_82 (lv_at hl 0 rfl) ?_
                  refine lv_lconst (v := 0) hx hb dX0_multiple_84 (by decide) ?_
                  refine W.lcmp hx hb dX0_multiple_85 ?_
                  refine lv_topi (fun v116 ev116 => ?_)
                  replace h := mi_use ev116 h
                  refine lv_if_eq (tgt := 99) hx hb dX0_multiple_86 (by decide) (fun c117 => ?_) (fun c117 => ?_)
                  · replace h := (if_pos c117).symm.trans h
                    obtain ⟨v118, ev118⟩ : ∃ z : Int32, z = x97 + 1 := ⟨_, rfl⟩
                    refine lv_iinc (v := v118) (lv' := [(8, .int v118), (6, .long v115), (4, .int r114), (5, .int x95), (0, .ref h0), (1, .int a0), (2, .long a1)]) hx hb dX0_multiple_99 hl (k := 3) rfl (by rw [ev118]; rfl) (by decide) rfl (fun ls hl => ?_)
                    replace h := mi_use ev118 h
                    refine lv_goto (tgt := 37) hx hb dX0_multiple_102 (by decide) ?_
                    exact ih _ _ _ _ _ (hA _ (Option.some.inj h).symm) hkE ls (lv_sub hl [2, 3, 1, 0, 4, 5, 6] rfl)
                  · replace h := (if_neg c117).symm.trans h
                    refine lv_aload_n hx hb dX0_multiple_89 rfl (lv_at hl 4 rfl) ?_
                    refine lv_iload hx hb dX0_multiple_90 (lv_at hl 2 rfl) ?_
                    refine lv_iload hx hb dX0_multiple_92 (lv_at hl 2 rfl) ?_
                    obtain ⟨r119, hr119, h⟩ := Option.bind_eq_some_iff.mp h
                    have hPc := hP.sub (ws' := [(h0, .inr (0, [.int t_p, .int t_a, .int t_b, .int t_from, .int t_kernelPoint, .int t_kernelOrder, .int t_points, .int t_inner, .int t_outer, .int t_makersFound, .int t_first, .int t_second]))]) [0] rfl
                    have hKc := hK.sub (tys' := []) [] rfl
                    refine vp_callSi (W.runV (As := [.int x95, .int x95]) (rest := []) ⟨hx, hb, hml, hown, hts⟩ (ctX0_sum l N dC dI  h0 t_p t_a t_b t_from t_kernelPoint t_kernelOrder t_points t_inner t_outer t_makersFound t_first t_second x95 x95 r119 hr119) (cwV 2 hts gX0_multiple_X0_sum rfl rfl rfl (by decide +kernel) ⟨Nat.le_of_ble_eq_true rfl, Nat.le_of_ble_eq_true rfl⟩) ⟨fun a U g mk q => by obtain ⟨q0, qP, qK, qN⟩ := q; exact ⟨q0, qP, va_K.moved (u := U) (U := U.calling g mk a) (Vm.Alike.refl U.vm) qK, nw_same (u := U) (U := U.calling g mk a) rfl qN⟩, va_recv hKc hPc (ci := 0) (q0 := 0) rfl rfl, fun U hU hW => ⟨rfl, by rw [hU]; exact hPc, va_K.moved hW.alike hKc, nw_warm hW hN⟩⟩ rfl rfl hl.1 rfl (lv_room (Nat.le_of_ble_eq_true rfl)) dX0_multiple_94 ⟨Nat.le_of_ble_eq_true rfl, Nat.le_of_ble_eq_true rfl⟩) (fun q9 eq9 => ?_)
                    subst q9
                    refine lv_istore (lv' := [(5, .int r119), (6, .long v115), (4, .int r114), (8, .int x97), (0, .ref h0), (1, .int a0), (2, .long a1)]) hx hb dX0_multiple_97 hl (by decide) rfl (fun ls hl => ?_)
                    obtain ⟨v120, ev120⟩ : ∃ z : Int32, z = x97 + 1 := ⟨_, rfl⟩
                    refine lv_iinc (v := v120) (lv' := [(8, .int v120), (5, .int r119), (6, .long v115), (4, .int r114), (0, .ref h0), (1, .int a0), (2, .long a1)]) hx hb dX0_multiple_99 hl (k := 3) rfl (by rw [ev120]; rfl) (by decide) rfl (fun ls hl => ?_)
                    replace h := mi_use ev120 h
                    refine lv_goto (tgt := 37) hx hb dX0_multiple_102 (by decide) ?_
                    exact ih _ _ _ _ _ (hA _ (Option.some.inj h).symm) hkE ls (lv_sub hl [3, 1, 2, 0, 4, 5, 6] rfl)
      obtain ⟨o121, ho121, h⟩ := Option.bind_eq_some_iff.mp h
      refine L37 N _ _ _ _ o121 ho121 ?_ ls (lv_sub hl [3, 2, 1, 0, 4, 5, 6] rfl)
      intro y98 y99 y100 y101 eo ls hl
      subst eo
      try dsimp only at h
      refine lv_iload hx hb dX0_multiple_105 (lv_at hl 0 rfl) ?_
      have hv : y98 = rr := Option.some.inj h
      exact W.iret (v := y98) hx hb hr (fun t ht hW => ⟨_, rfl, hv, ht⟩) (fun q hq => absurd hq List.not_mem_nil) dX0_multiple_107
def mX0_orderWithin_b8 (N : Nat) (t_p : Int32) (t_a : Int32) (a0 : Int32) (st : Int32 × Int32 × Int32) : Option ((Int32 × Int32 × Int32) ⊕ (Int32 × Int32 × Int32)) :=
  match st with
  | (x1, x2, x3) => if 32 ≤ x3 then some (.inr (x1, x2, x3)) else if x2 ≤ 1 then some (.inr (x1, x2, x3)) else (mX4_leastFactor N x2).bind (fun r9 => if r9 = 0 then none else mi_let (x2 / r9) (fun v11 => if r9 = 0 then none else mi_let (x1 / r9) (fun v13 => (mX0_multiple N t_p t_a a0 v13.toInt64).bind (fun r14 => if r14 = (-1) then if r9 = 0 then none else mi_let (x1 / r9) (fun v18 => mi_let (x3 + 1) (fun v19 => some (.inl (v18, v11, v19)))) else mi_let (x3 + 1) (fun v16 => some (.inl (x1, v11, v16)))))))
def mX0_orderWithin (N : Nat) (t_p : Int32) (t_a : Int32) (a0 : Int32) (a1 : Int32) : Option (Int32) := (mi_run (mX0_orderWithin_b8 N t_p t_a a0) N (a1, a1, 0)).bind (fun o20 => match o20 with | (y4, y5, y6) => some y4)
abbrev rmX0_orderWithin : Room := { frames := 3, cells := 0, slots := 0, locals := 88 }
set_option maxHeartbeats 4000000 in
set_option maxRecDepth 100000 in
theorem ctX0_orderWithin (l : Launch) (N : Nat) (dC : Nat → ClassId) (dI : Nat → Nat → Nat) (h0 : Nat) (t_p : Int32) (t_a : Int32) (t_b : Int32) (t_from : Int32) (t_kernelPoint : Int32) (t_kernelOrder : Int32) (t_points : Int32) (t_inner : Int32) (t_outer : Int32) (t_makersFound : Int32) (t_first : Int32) (t_second : Int32) (a0 : Int32) (a1 : Int32) (rr : Int32) (h : mX0_orderWithin N t_p t_a a0 a1 = some rr) : Met l yX0_orderWithin wsX0_orderWithin rmX0_orderWithin (va_Pc [.ref h0, .int a0, .int a1] (fun U => va_P (dC, dI) vwCl [(h0, .inr (0, [.int t_p, .int t_a, .int t_b, .int t_from, .int t_kernelPoint, .int t_kernelOrder, .int t_points, .int t_inner, .int t_outer, .int t_makersFound, .int t_first, .int t_second]))] U.heap ∧ va_K (dC, dI) vwCl [] U ∧ nw_all U)) (vp_Si (fun r => r = rr)) 0 0 (fun _ => False) := by
  refine Met.ofW (cc := cX0_orderWithin) (maxL := 7) (ret := (some .int)) (by decide) rfl ?_
  intro p e s m args below meth c s₁ B hml hv
  obtain ⟨rfl, hP, hK, hN⟩ := hv
  have hx := B.exec
  have hb := B.bytes
  have hr := B.returns
  have hts := atoms_spec (ws := wsX0_orderWithin) B.pre
  have hown : s.vm.findClass RX0 = some m.cls := findClass_of_methodNamed B.named
  have hlocks := B.notSynchronized
  have hl := lv_entry ([.ref h0, .int a0, .int a1]) (n := 7) (Nat.le_of_ble_eq_true rfl)
  rw [lg_entry_eq]
  generalize (lg_sl ([.ref h0, .int a0, .int a1]) ++ List.replicate (7 - (lg_sl ([.ref h0, .int a0, .int a1])).length) Slot.unset).toArray = ls at hl ⊢
  have hl : lv_has ls 7 [(0, .ref h0), (1, .int a0), (2, .int a1)] := hl
  dsimp only [mX0_orderWithin] at h
  refine lv_iload_n hx hb dX0_orderWithin_0 rfl (lv_at hl 2 rfl) ?_
  refine lv_istore_n (lv' := [(3, .int a1), (0, .ref h0), (1, .int a0), (2, .int a1)]) hx hb dX0_orderWithin_1 rfl hl (by decide) rfl (fun ls hl => ?_)
  refine lv_iload_n hx hb dX0_orderWithin_2 rfl (lv_at hl 3 rfl) ?_
  refine lv_istore (lv' := [(4, .int a1), (3, .int a1), (0, .ref h0), (1, .int a0), (2, .int a1)]) hx hb dX0_orderWithin_3 hl (by decide) rfl (fun ls hl => ?_)
  refine lv_iconst (v := 0) hx hb dX0_orderWithin_5 (by decide) ?_
  refine lv_istore (lv' := [(5, .int 0), (4, .int a1), (3, .int a1), (0, .ref h0), (1, .int a0), (2, .int a1)]) hx hb dX0_orderWithin_6 hl (by decide) rfl (fun ls hl => ?_)
  have L8 : ∀ (n : Nat) (x1 : Int32) (x2 : Int32) (x3 : Int32) (o : Int32 × Int32 × Int32), mi_run (mX0_orderWithin_b8 N t_p t_a a0) n (x1, x2, x3) = some o → (∀ (y4 : Int32) (y5 : Int32) (y6 : Int32), o = (y4, y5, y6) → ∀ ls, lv_has ls 7 [(3, .int y4), (4, .int y5), (5, .int y6), (0, .ref h0), (1, .int a0), (2, .int a1)] → W p l e (headSpec wsX0_orderWithin rmX0_orderWithin).room s m (([.ref h0, .int a0, .int a1] : List Value).toArray) below meth c s.heap [] 0 0 (MQ below (vp_Si (fun r => r = rr)) (([.ref h0, .int a0, .int a1] : List Value).toArray) s 0 0 (fun _ => False)) (F0 m 60 ls [])) → ∀ ls, lv_has ls 7 [(3, .int x1), (4, .int x2), (5, .int x3), (0, .ref h0), (1, .int a0), (2, .int a1)] → W p l e (headSpec wsX0_orderWithin rmX0_orderWithin).room s m (([.ref h0, .int a0, .int a1] : List Value).toArray) below meth c s.heap [] 0 0 (MQ below (vp_Si (fun r => r = rr)) (([.ref h0, .int a0, .int a1] : List Value).toArray) s 0 0 (fun _ => False)) (F0 m 8 ls []) := by
    intro n
    induction n with
    | zero => intro x1 x2 x3 o h; exact absurd h (mi_run_0 _ _ _)
    | succ n ih =>
      intro x1 x2 x3 o h hkE ls hl
      obtain ⟨w, h, hA, hB⟩ := mi_run_s h
      dsimp only [mX0_orderWithin_b8] at h
      refine lv_iload hx hb dX0_orderWithin_8 (lv_at hl 2 rfl) ?_
      refine lv_bipush (v := 32) hx hb dX0_orderWithin_10 (by decide) ?_
      refine lv_icmp_ge (tgt := 60) hx hb dX0_orderWithin_12 (by decide) (fun c7 => ?_) (fun c7 => ?_)
      · replace h := (if_pos c7).symm.trans h
        exact hkE _ _ _ (hB _ (Option.some.inj h).symm) ls (lv_sub hl [0, 1, 2, 3, 4, 5] rfl)
      · replace h := (if_neg c7).symm.trans h
        refine lv_iload hx hb dX0_orderWithin_15 (lv_at hl 1 rfl) ?_
        refine lv_iconst (v := 1) hx hb dX0_orderWithin_17 (by decide) ?_
        refine lv_icmp_le (tgt := 60) hx hb dX0_orderWithin_18 (by decide) (fun c8 => ?_) (fun c8 => ?_)
        · replace h := (if_pos c8).symm.trans h
          exact hkE _ _ _ (hB _ (Option.some.inj h).symm) ls (lv_sub hl [0, 1, 2, 3, 4, 5] rfl)
        · replace h := (if_neg c8).symm.trans h
          refine lv_iload hx hb dX0_orderWithin_21 (lv_at hl 1 rfl) ?_
          obtain ⟨r9, hr9, h⟩ := Option.bind_eq_some_iff.mp h
          refine vp_callSi (W.runS (As := [.int x2]) (rest := []) ⟨hx, hb, hml, hown, hts⟩ (ctX4_leastFactor l N  x2 r9 hr9) (va_cwS 1 hts gX0_orderWithin_X4_leastFactor rfl rfl rfl (by decide +kernel) ⟨Nat.le_of_ble_eq_true rfl, Nat.le_of_ble_eq_true rfl⟩) preEq rfl rfl hl.1 rfl (lv_room (Nat.le_of_ble_eq_true rfl)) dX0_orderWithin_23 ⟨Nat.le_of_ble_eq_true rfl, Nat.le_of_ble_eq_true rfl⟩) (fun q9 eq9 => ?_)
          subst q9
          refine lv_istore (lv' := [(6, .int r9), (3, .int x1), (4, .int x2), (5, .int x3), (0, .ref h0), (1, .int a0), (2, .int a1)]) hx hb dX0_orderWithin_26 hl (by decide) rfl (fun ls hl => ?_)
          refine lv_iload hx hb dX0_orderWithin_28 (lv_at hl 2 rfl) ?_
          refine lv_iload hx hb dX0_orderWithin_30 (lv_at hl 0 rfl) ?_
          have hn10 : ¬ r9 = 0 := fun hz => absurd ((if_pos hz).symm.trans h) (fun hh => nomatch hh)
          replace h := (if_neg hn10).symm.trans h
          refine lv_idiv hx hb dX0_orderWithin_32 hn10 ?_
          refine lv_topi (fun v11 ev11 => ?_)
          replace h := mi_use ev11 h
          refine lv_istore (lv' := [(4, .int v11), (6, .int r9), (3, .int x1), (5, .int x3), (0, .ref h0), (1, .int a0), (2, .int a1)]) hx hb dX0_orderWithin_33 hl (by decide) rfl (fun ls hl => ?_)
          refine lv_aload_n hx hb dX0_orderWithin_35 rfl (lv_at hl 4 rfl) ?_
          refine lv_iload_n hx hb dX0_orderWithin_36 rfl (lv_at hl 5 rfl) ?_
          refine lv_iload_n hx hb dX0_orderWithin_37 rfl (lv_at hl 2 rfl) ?_
          refine lv_iload hx hb dX0_orderWithin_38 (lv_at hl 1 rfl) ?_
          have hn12 : ¬ r9 = 0 := fun hz => absurd ((if_pos hz).symm.trans h) (fun hh => nomatch hh)
          replace h := (if_neg hn12).symm.trans h
          refine lv_idiv hx hb dX0_orderWithin_40 hn12 ?_
          refine lv_topi (fun v13 ev13 => ?_)
          replace h := mi_use ev13 h
          refine lv_i2l hx hb dX0_orderWithin_41 rfl ?_
          obtain ⟨r14, hr14, h⟩ := Option.bind_eq_some_iff.mp h
          have hPc := hP.sub (ws' := [(h0, .inr (0, [.int t_p, .int t_a, .int t_b, .int t_from, .int t_kernelPoint, .int t_kernelOrder, .int t_points, .int t_inner, .int t_outer, .int t_makersFound, .int t_first, .int t_second]))]) [0] rfl
          have hKc := hK.sub (tys' := []) [] rfl
          refine vp_callSi (W.runV (As := [.int a0, .long v13.toInt64]) (rest := []) ⟨hx, hb, hml, hown, hts⟩ (ctX0_multiple l N dC dI  h0 t_p t_a t_b t_from t_kernelPoint t_kernelOrder t_points t_inner t_outer t_makersFound t_first t_second a0 v13.toInt64 r14 hr14) (cwV 2 hts gX0_orderWithin_X0_multiple rfl rfl rfl (by decide +kernel) ⟨Nat.le_of_ble_eq_true rfl, Nat.le_of_ble_eq_true rfl⟩) ⟨fun a U g mk q => by obtain ⟨q0, qP, qK, qN⟩ := q; exact ⟨q0, qP, va_K.moved (u := U) (U := U.calling g mk a) (Vm.Alike.refl U.vm) qK, nw_same (u := U) (U := U.calling g mk a) rfl qN⟩, va_recv hKc hPc (ci := 0) (q0 := 0) rfl rfl, fun U hU hW => ⟨rfl, by rw [hU]; exact hPc, va_K.moved hW.alike hKc, nw_warm hW hN⟩⟩ rfl rfl hl.1 rfl (lv_room (Nat.le_of_ble_eq_true rfl)) dX0_orderWithin_42 ⟨Nat.le_of_ble_eq_true rfl, Nat.le_of_ble_eq_true rfl⟩) (fun q9 eq9 => ?_)
          subst q9
          refine lv_iconst (v := (-1)) hx hb dX0_orderWithin_45 (by decide) ?_
          refine lv_icmp_ne (tgt := 54) hx hb dX0_orderWithin_46 (by decide) (fun c15 => ?_) (fun c15 => ?_)
          · replace h := (if_neg c15).symm.trans h
            obtain ⟨v16, ev16⟩ : ∃ z : Int32, z = x3 + 1 := ⟨_, rfl⟩
            refine lv_iinc (v := v16) (lv' := [(5, .int v16), (4, .int v11), (6, .int r9), (3, .int x1), (0, .ref h0), (1, .int a0), (2, .int a1)]) hx hb dX0_orderWithin_54 hl (k := 3) rfl (by rw [ev16]; rfl) (by decide) rfl (fun ls hl => ?_)
            replace h := mi_use ev16 h
            refine lv_goto (tgt := 8) hx hb dX0_orderWithin_57 (by decide) ?_
            exact ih _ _ _ _ (hA _ (Option.some.inj h).symm) hkE ls (lv_sub hl [3, 1, 0, 4, 5, 6] rfl)
          · replace h := (if_pos c15).symm.trans h
            refine lv_iload_n hx hb dX0_orderWithin_49 rfl (lv_at hl 2 rfl) ?_
            refine lv_iload hx hb dX0_orderWithin_50 (lv_at hl 1 rfl) ?_
            have hn17 : ¬ r9 = 0 := fun hz => absurd ((if_pos hz).symm.trans h) (fun hh => nomatch hh)
            replace h := (if_neg hn17).symm.trans h
            refine lv_idiv hx hb dX0_orderWithin_52 hn17 ?_
            refine lv_topi (fun v18 ev18 => ?_)
            replace h := mi_use ev18 h
            refine lv_istore_n (lv' := [(3, .int v18), (4, .int v11), (6, .int r9), (5, .int x3), (0, .ref h0), (1, .int a0), (2, .int a1)]) hx hb dX0_orderWithin_53 rfl hl (by decide) rfl (fun ls hl => ?_)
            obtain ⟨v19, ev19⟩ : ∃ z : Int32, z = x3 + 1 := ⟨_, rfl⟩
            refine lv_iinc (v := v19) (lv' := [(5, .int v19), (3, .int v18), (4, .int v11), (6, .int r9), (0, .ref h0), (1, .int a0), (2, .int a1)]) hx hb dX0_orderWithin_54 hl (k := 3) rfl (by rw [ev19]; rfl) (by decide) rfl (fun ls hl => ?_)
            replace h := mi_use ev19 h
            refine lv_goto (tgt := 8) hx hb dX0_orderWithin_57 (by decide) ?_
            exact ih _ _ _ _ (hA _ (Option.some.inj h).symm) hkE ls (lv_sub hl [1, 2, 0, 4, 5, 6] rfl)
  obtain ⟨o20, ho20, h⟩ := Option.bind_eq_some_iff.mp h
  refine L8 N _ _ _ o20 ho20 ?_ ls (lv_sub hl [2, 1, 0, 3, 4, 5] rfl)
  intro y4 y5 y6 eo ls hl
  subst eo
  try dsimp only at h
  refine lv_iload_n hx hb dX0_orderWithin_60 rfl (lv_at hl 0 rfl) ?_
  have hv : y4 = rr := Option.some.inj h
  exact W.iret (v := y4) hx hb hr (fun t ht hW => ⟨_, rfl, hv, ht⟩) (fun q hq => absurd hq List.not_mem_nil) dX0_orderWithin_61
def mX0_manyKilledBy (N : Nat) (t_inner : Int32) (t_outer : Int32) (a0 : Int32) : Option (Int32) := (mX4_commonPart N a0 t_inner).bind (fun r1 => (mX4_commonPart N a0 t_outer).bind (fun r2 => some (r1 * r2)))
abbrev rmX0_manyKilledBy : Room := { frames := 1, cells := 0, slots := 0, locals := 25 }
set_option maxHeartbeats 4000000 in
set_option maxRecDepth 100000 in
theorem ctX0_manyKilledBy (l : Launch) (N : Nat) (dC : Nat → ClassId) (dI : Nat → Nat → Nat) (h0 : Nat) (t_p : Int32) (t_a : Int32) (t_b : Int32) (t_from : Int32) (t_kernelPoint : Int32) (t_kernelOrder : Int32) (t_points : Int32) (t_inner : Int32) (t_outer : Int32) (t_makersFound : Int32) (t_first : Int32) (t_second : Int32) (a0 : Int32) (rr : Int32) (h : mX0_manyKilledBy N t_inner t_outer a0 = some rr) : Met l yX0_manyKilledBy wsX0_manyKilledBy rmX0_manyKilledBy (va_Pc [.ref h0, .int a0] (fun U => va_P (dC, dI) vwCl [(h0, .inr (0, [.int t_p, .int t_a, .int t_b, .int t_from, .int t_kernelPoint, .int t_kernelOrder, .int t_points, .int t_inner, .int t_outer, .int t_makersFound, .int t_first, .int t_second]))] U.heap ∧ va_K (dC, dI) vwCl [] U ∧ nw_all U)) (vp_Si (fun r => r = rr)) 0 0 (fun _ => False) := by
  refine Met.ofW (cc := cX0_manyKilledBy) (maxL := 2) (ret := (some .int)) (by decide) rfl ?_
  intro p e s m args below meth c s₁ B hml hv
  obtain ⟨rfl, hP, hK, hN⟩ := hv
  have hx := B.exec
  have hb := B.bytes
  have hr := B.returns
  have hts := atoms_spec (ws := wsX0_manyKilledBy) B.pre
  have hown : s.vm.findClass RX0 = some m.cls := findClass_of_methodNamed B.named
  have hlocks := B.notSynchronized
  have hl := lv_entry ([.ref h0, .int a0]) (n := 2) (Nat.le_of_ble_eq_true rfl)
  rw [lg_entry_eq]
  generalize (lg_sl ([.ref h0, .int a0]) ++ List.replicate (2 - (lg_sl ([.ref h0, .int a0])).length) Slot.unset).toArray = ls at hl ⊢
  have hl : lv_has ls 2 [(0, .ref h0), (1, .int a0)] := hl
  dsimp only [mX0_manyKilledBy] at h
  refine lv_iload_n hx hb dX0_manyKilledBy_0 rfl (lv_at hl 1 rfl) ?_
  refine lv_aload_n hx hb dX0_manyKilledBy_1 rfl (lv_at hl 0 rfl) ?_
  refine va_get (D := (dC, dI)) (ci := 0) (v := .int t_inner) (C := RX0) (T := TX0) (N := 12) hx hb hts (by decide +kernel) hown hK hP 0 rfl rfl 7 (by decide) (hts (.fieldLink RX0 76 "PointRings$Curve" "inner" "I") (by decide +kernel)) (fun _ h9 => h9) rfl dX0_manyKilledBy_2 ?_
  obtain ⟨r1, hr1, h⟩ := Option.bind_eq_some_iff.mp h
  refine vp_callSi (W.runS (As := [.int a0, .int t_inner]) (rest := []) ⟨hx, hb, hml, hown, hts⟩ (ctX4_commonPart l N  a0 t_inner r1 hr1) (va_cwS 2 hts gX0_manyKilledBy_X4_commonPart rfl rfl rfl (by decide +kernel) ⟨Nat.le_of_ble_eq_true rfl, Nat.le_of_ble_eq_true rfl⟩) preEq rfl rfl hl.1 rfl (lv_room (Nat.le_of_ble_eq_true rfl)) dX0_manyKilledBy_5 ⟨Nat.le_of_ble_eq_true rfl, Nat.le_of_ble_eq_true rfl⟩) (fun q9 eq9 => ?_)
  subst q9
  refine lv_iload_n hx hb dX0_manyKilledBy_8 rfl (lv_at hl 1 rfl) ?_
  refine lv_aload_n hx hb dX0_manyKilledBy_9 rfl (lv_at hl 0 rfl) ?_
  refine va_get (D := (dC, dI)) (ci := 0) (v := .int t_outer) (C := RX0) (T := TX0) (N := 12) hx hb hts (by decide +kernel) hown hK hP 0 rfl rfl 8 (by decide) (hts (.fieldLink RX0 79 "PointRings$Curve" "outer" "I") (by decide +kernel)) (fun _ h9 => h9) rfl dX0_manyKilledBy_10 ?_
  obtain ⟨r2, hr2, h⟩ := Option.bind_eq_some_iff.mp h
  refine vp_callSi (W.runS (As := [.int a0, .int t_outer]) (rest := [.int r1]) ⟨hx, hb, hml, hown, hts⟩ (ctX4_commonPart l N  a0 t_outer r2 hr2) (va_cwS 2 hts gX0_manyKilledBy_X4_commonPart rfl rfl rfl (by decide +kernel) ⟨Nat.le_of_ble_eq_true rfl, Nat.le_of_ble_eq_true rfl⟩) preEq rfl rfl hl.1 rfl (lv_room (Nat.le_of_ble_eq_true rfl)) dX0_manyKilledBy_13 ⟨Nat.le_of_ble_eq_true rfl, Nat.le_of_ble_eq_true rfl⟩) (fun q9 eq9 => ?_)
  subst q9
  refine lv_imul hx hb dX0_manyKilledBy_16 ?_
  have hv : r1 * r2 = rr := Option.some.inj h
  exact W.iret (v := (r1 * r2)) hx hb hr (fun t ht hW => ⟨_, rfl, hv, ht⟩) (fun q hq => absurd hq List.not_mem_nil) dX0_manyKilledBy_17
def mX0_manyOfOrder_b17 (N : Nat) (t_inner : Int32) (t_outer : Int32) (st : Int32 × Int32 × Int32) : Option ((Int32 × Int32 × Int32) ⊕ (Int32 × Int32 × Int32)) :=
  match st with
  | (x2, x3, x4) => if 32 ≤ x4 then some (.inr (x2, x3, x4)) else if x3 ≤ 1 then some (.inr (x2, x3, x4)) else (mX4_leastFactor N x3).bind (fun r10 => (mX4_partOf N x3 r10).bind (fun r11 => if r11 = 0 then none else mi_let (x3 / r11) (fun v13 => (mX0_manyKilledBy N t_inner t_outer r11).bind (fun r14 => if r10 = 0 then none else mi_let (r11 / r10) (fun v16 => (mX0_manyKilledBy N t_inner t_outer v16).bind (fun r17 => mi_let (x2 * (r14 - r17)) (fun v18 => mi_let (x4 + 1) (fun v19 => some (.inl (v18, v13, v19))))))))))
def mX0_manyOfOrder (N : Nat) (t_inner : Int32) (t_outer : Int32) (a0 : Int32) : Option (Int32) := if a0 ≤ t_outer then (mi_run (mX0_manyOfOrder_b17 N t_inner t_outer) N (1, a0, 0)).bind (fun o20 => match o20 with | (y5, y6, y7) => some y5) else some 0
abbrev rmX0_manyOfOrder : Room := { frames := 2, cells := 0, slots := 0, locals := 46 }
set_option maxHeartbeats 4000000 in
set_option maxRecDepth 100000 in
theorem ctX0_manyOfOrder (l : Launch) (N : Nat) (dC : Nat → ClassId) (dI : Nat → Nat → Nat) (h0 : Nat) (t_p : Int32) (t_a : Int32) (t_b : Int32) (t_from : Int32) (t_kernelPoint : Int32) (t_kernelOrder : Int32) (t_points : Int32) (t_inner : Int32) (t_outer : Int32) (t_makersFound : Int32) (t_first : Int32) (t_second : Int32) (a0 : Int32) (rr : Int32) (h : mX0_manyOfOrder N t_inner t_outer a0 = some rr) : Met l yX0_manyOfOrder wsX0_manyOfOrder rmX0_manyOfOrder (va_Pc [.ref h0, .int a0] (fun U => va_P (dC, dI) vwCl [(h0, .inr (0, [.int t_p, .int t_a, .int t_b, .int t_from, .int t_kernelPoint, .int t_kernelOrder, .int t_points, .int t_inner, .int t_outer, .int t_makersFound, .int t_first, .int t_second]))] U.heap ∧ va_K (dC, dI) vwCl [] U ∧ nw_all U)) (vp_Si (fun r => r = rr)) 0 0 (fun _ => False) := by
  refine Met.ofW (cc := cX0_manyOfOrder) (maxL := 7) (ret := (some .int)) (by decide) rfl ?_
  intro p e s m args below meth c s₁ B hml hv
  obtain ⟨rfl, hP, hK, hN⟩ := hv
  have hx := B.exec
  have hb := B.bytes
  have hr := B.returns
  have hts := atoms_spec (ws := wsX0_manyOfOrder) B.pre
  have hown : s.vm.findClass RX0 = some m.cls := findClass_of_methodNamed B.named
  have hlocks := B.notSynchronized
  have hl := lv_entry ([.ref h0, .int a0]) (n := 7) (Nat.le_of_ble_eq_true rfl)
  rw [lg_entry_eq]
  generalize (lg_sl ([.ref h0, .int a0]) ++ List.replicate (7 - (lg_sl ([.ref h0, .int a0])).length) Slot.unset).toArray = ls at hl ⊢
  have hl : lv_has ls 7 [(0, .ref h0), (1, .int a0)] := hl
  dsimp only [mX0_manyOfOrder] at h
  refine lv_iload_n hx hb dX0_manyOfOrder_0 rfl (lv_at hl 1 rfl) ?_
  refine lv_aload_n hx hb dX0_manyOfOrder_1 rfl (lv_at hl 0 rfl) ?_
  refine va_get (D := (dC, dI)) (ci := 0) (v := .int t_outer) (C := RX0) (T := TX0) (N := 12) hx hb hts (by decide +kernel) hown hK hP 0 rfl rfl 8 (by decide) (hts (.fieldLink RX0 79 "PointRings$Curve" "outer" "I") (by decide +kernel)) (fun _ h9 => h9) rfl dX0_manyOfOrder_2 ?_
  refine lv_icmp_le (tgt := 10) hx hb dX0_manyOfOrder_5 (by decide) (fun c1 => ?_) (fun c1 => ?_)
  · replace h := (if_pos c1).symm.trans h
    refine lv_iconst (v := 1) hx hb dX0_manyOfOrder_10 (by decide) ?_
    refine lv_istore_n (lv' := [(2, .int 1), (0, .ref h0), (1, .int a0)]) hx hb dX0_manyOfOrder_11 rfl hl (by decide) rfl (fun ls hl => ?_)
    refine lv_iload_n hx hb dX0_manyOfOrder_12 rfl (lv_at hl 2 rfl) ?_
    refine lv_istore_n (lv' := [(3, .int a0), (2, .int 1), (0, .ref h0), (1, .int a0)]) hx hb dX0_manyOfOrder_13 rfl hl (by decide) rfl (fun ls hl => ?_)
    refine lv_iconst (v := 0) hx hb dX0_manyOfOrder_14 (by decide) ?_
    refine lv_istore (lv' := [(4, .int 0), (3, .int a0), (2, .int 1), (0, .ref h0), (1, .int a0)]) hx hb dX0_manyOfOrder_15 hl (by decide) rfl (fun ls hl => ?_)
    have L17 : ∀ (n : Nat) (x2 : Int32) (x3 : Int32) (x4 : Int32) (o : Int32 × Int32 × Int32), mi_run (mX0_manyOfOrder_b17 N t_inner t_outer) n (x2, x3, x4) = some o → (∀ (y5 : Int32) (y6 : Int32) (y7 : Int32), o = (y5, y6, y7) → ∀ ls, lv_has ls 7 [(2, .int y5), (3, .int y6), (4, .int y7), (0, .ref h0), (1, .int a0)] → W p l e (headSpec wsX0_manyOfOrder rmX0_manyOfOrder).room s m (([.ref h0, .int a0] : List Value).toArray) below meth c s.heap [] 0 0 (MQ below (vp_Si (fun r => r = rr)) (([.ref h0, .int a0] : List Value).toArray) s 0 0 (fun _ => False)) (F0 m 73 ls [])) → ∀ ls, lv_has ls 7 [(2, .int x2), (3, .int x3), (4, .int x4), (0, .ref h0), (1, .int a0)] → W p l e (headSpec wsX0_manyOfOrder rmX0_manyOfOrder).room s m (([.ref h0, .int a0] : List Value).toArray) below meth c s.heap [] 0 0 (MQ below (vp_Si (fun r => r = rr)) (([.ref h0, .int a0] : List Value).toArray) s 0 0 (fun _ => False)) (F0 m 17 ls []) := by
      intro n
      induction n with
      | zero => intro x2 x3 x4 o h; exact absurd h (mi_run_0 _ _ _)
      | succ n ih =>
        intro x2 x3 x4 o h hkE ls hl
        obtain ⟨w, h, hA, hB⟩ := mi_run_s h
        dsimp only [mX0_manyOfOrder_b17] at h
        refine lv_iload hx hb dX0_manyOfOrder_17 (lv_at hl 2 rfl) ?_
        refine lv_bipush (v := 32) hx hb dX0_manyOfOrder_19 (by decide) ?_
        refine lv_icmp_ge (tgt := 73) hx hb dX0_manyOfOrder_21 (by decide) (fun c8 => ?_) (fun c8 => ?_)
        · replace h := (if_pos c8).symm.trans h
          exact hkE _ _ _ (hB _ (Option.some.inj h).symm) ls (lv_sub hl [0, 1, 2, 3, 4] rfl)
        · replace h := (if_neg c8).symm.trans h
          refine lv_iload_n hx hb dX0_manyOfOrder_24 rfl (lv_at hl 1 rfl) ?_
          refine lv_iconst (v := 1) hx hb dX0_manyOfOrder_25 (by decide) ?_
          refine lv_icmp_le (tgt := 73) hx hb dX0_manyOfOrder_26 (by decide) (fun c9 => ?_) (fun c9 => ?_)
          · replace h := (if_pos c9).symm.trans h
            exact hkE _ _ _ (hB _ (Option.some.inj h).symm) ls (lv_sub hl [0, 1, 2, 3, 4] rfl)
          · replace h := (if_neg c9).symm.trans h
            refine lv_iload_n hx hb dX0_manyOfOrder_29 rfl (lv_at hl 1 rfl) ?_
            obtain ⟨r10, hr10, h⟩ := Option.bind_eq_some_iff.mp h
            refine vp_callSi (W.runS (As := [.int x3]) (rest := []) ⟨hx, hb, hml, hown, hts⟩ (ctX4_leastFactor l N  x3 r10 hr10) (va_cwS 1 hts gX0_manyOfOrder_X4_leastFactor rfl rfl rfl (by decide +kernel) ⟨Nat.le_of_ble_eq_true rfl, Nat.le_of_ble_eq_true rfl⟩) preEq rfl rfl hl.1 rfl (lv_room (Nat.le_of_ble_eq_true rfl)) dX0_manyOfOrder_30 ⟨Nat.le_of_ble_eq_true rfl, Nat.le_of_ble_eq_true rfl⟩) (fun q9 eq9 => ?_)
            subst q9
            refine lv_istore (lv' := [(5, .int r10), (2, .int x2), (3, .int x3), (4, .int x4), (0, .ref h0), (1, .int a0)]) hx hb dX0_manyOfOrder_33 hl (by decide) rfl (fun ls hl => ?_)
            refine lv_iload_n hx hb dX0_manyOfOrder_35 rfl (lv_at hl 2 rfl) ?_
            refine lv_iload hx hb dX0_manyOfOrder_36 (lv_at hl 0 rfl) ?_
            obtain ⟨r11, hr11, h⟩ := Option.bind_eq_some_iff.mp h
            refine vp_callSi (W.runS (As := [.int x3, .int r10]) (rest := []) ⟨hx, hb, hml, hown, hts⟩ (ctX4_partOf l N  x3 r10 r11 hr11) (va_cwS 2 hts gX0_manyOfOrder_X4_partOf rfl rfl rfl (by decide +kernel) ⟨Nat.le_of_ble_eq_true rfl, Nat.le_of_ble_eq_true rfl⟩) preEq rfl rfl hl.1 rfl (lv_room (Nat.le_of_ble_eq_true rfl)) dX0_manyOfOrder_38 ⟨Nat.le_of_ble_eq_true rfl, Nat.le_of_ble_eq_true rfl⟩) (fun q9 eq9 => ?_)
            subst q9
            refine lv_istore (lv' := [(6, .int r11), (5, .int r10), (2, .int x2), (3, .int x3), (4, .int x4), (0, .ref h0), (1, .int a0)]) hx hb dX0_manyOfOrder_41 hl (by decide) rfl (fun ls hl => ?_)
            refine lv_iload_n hx hb dX0_manyOfOrder_43 rfl (lv_at hl 3 rfl) ?_
            refine lv_iload hx hb dX0_manyOfOrder_44 (lv_at hl 0 rfl) ?_
            have hn12 : ¬ r11 = 0 := fun hz => absurd ((if_pos hz).symm.trans h) (fun hh => nomatch hh)
            replace h := (if_neg hn12).symm.trans h
            refine lv_idiv hx hb dX0_manyOfOrder_46 hn12 ?_
            refine lv_topi (fun v13 ev13 => ?_)
            replace h := mi_use ev13 h
            refine lv_istore_n (lv' := [(3, .int v13), (6, .int r11), (5, .int r10), (2, .int x2), (4, .int x4), (0, .ref h0), (1, .int a0)]) hx hb dX0_manyOfOrder_47 rfl hl (by decide) rfl (fun ls hl => ?_)
            refine lv_iload_n hx hb dX0_manyOfOrder_48 rfl (lv_at hl 3 rfl) ?_
            refine lv_aload_n hx hb dX0_manyOfOrder_49 rfl (lv_at hl 5 rfl) ?_
            refine lv_iload hx hb dX0_manyOfOrder_50 (lv_at hl 1 rfl) ?_
            obtain ⟨r14, hr14, h⟩ := Option.bind_eq_some_iff.mp h
            have hPc := hP.sub (ws' := [(h0, .inr (0, [.int t_p, .int t_a, .int t_b, .int t_from, .int t_kernelPoint, .int t_kernelOrder, .int t_points, .int t_inner, .int t_outer, .int t_makersFound, .int t_first, .int t_second]))]) [0] rfl
            have hKc := hK.sub (tys' := []) [] rfl
            refine vp_callSi (W.runV (As := [.int r11]) (rest := [.int x2]) ⟨hx, hb, hml, hown, hts⟩ (ctX0_manyKilledBy l N dC dI  h0 t_p t_a t_b t_from t_kernelPoint t_kernelOrder t_points t_inner t_outer t_makersFound t_first t_second r11 r14 hr14) (cwV 1 hts gX0_manyOfOrder_X0_manyKilledBy rfl rfl rfl (by decide +kernel) ⟨Nat.le_of_ble_eq_true rfl, Nat.le_of_ble_eq_true rfl⟩) ⟨fun a U g mk q => by obtain ⟨q0, qP, qK, qN⟩ := q; exact ⟨q0, qP, va_K.moved (u := U) (U := U.calling g mk a) (Vm.Alike.refl U.vm) qK, nw_same (u := U) (U := U.calling g mk a) rfl qN⟩, va_recv hKc hPc (ci := 0) (q0 := 0) rfl rfl, fun U hU hW => ⟨rfl, by rw [hU]; exact hPc, va_K.moved hW.alike hKc, nw_warm hW hN⟩⟩ rfl rfl hl.1 rfl (lv_room (Nat.le_of_ble_eq_true rfl)) dX0_manyOfOrder_52 ⟨Nat.le_of_ble_eq_true rfl, Nat.le_of_ble_eq_true rfl⟩) (fun q9 eq9 => ?_)
            subst q9
            refine lv_aload_n hx hb dX0_manyOfOrder_55 rfl (lv_at hl 5 rfl) ?_
            refine lv_iload hx hb dX0_manyOfOrder_56 (lv_at hl 1 rfl) ?_
            refine lv_iload hx hb dX0_manyOfOrder_58 (lv_at hl 2 rfl) ?_
            have hn15 : ¬ r10 = 0 := fun hz => absurd ((if_pos hz).symm.trans h) (fun hh => nomatch hh)
            replace h := (if_neg hn15).symm.trans h
            refine lv_idiv hx hb dX0_manyOfOrder_60 hn15 ?_
            refine lv_topi (fun v16 ev16 => ?_)
            replace h := mi_use ev16 h
            obtain ⟨r17, hr17, h⟩ := Option.bind_eq_some_iff.mp h
            have hPc := hP.sub (ws' := [(h0, .inr (0, [.int t_p, .int t_a, .int t_b, .int t_from, .int t_kernelPoint, .int t_kernelOrder, .int t_points, .int t_inner, .int t_outer, .int t_makersFound, .int t_first, .int t_second]))]) [0] rfl
            have hKc := hK.sub (tys' := []) [] rfl
            refine vp_callSi (W.runV (As := [.int v16]) (rest := [.int r14, .int x2]) ⟨hx, hb, hml, hown, hts⟩ (ctX0_manyKilledBy l N dC dI  h0 t_p t_a t_b t_from t_kernelPoint t_kernelOrder t_points t_inner t_outer t_makersFound t_first t_second v16 r17 hr17) (cwV 1 hts gX0_manyOfOrder_X0_manyKilledBy rfl rfl rfl (by decide +kernel) ⟨Nat.le_of_ble_eq_true rfl, Nat.le_of_ble_eq_true rfl⟩) ⟨fun a U g mk q => by obtain ⟨q0, qP, qK, qN⟩ := q; exact ⟨q0, qP, va_K.moved (u := U) (U := U.calling g mk a) (Vm.Alike.refl U.vm) qK, nw_same (u := U) (U := U.calling g mk a) rfl qN⟩, va_recv hKc hPc (ci := 0) (q0 := 0) rfl rfl, fun U hU hW => ⟨rfl, by rw [hU]; exact hPc, va_K.moved hW.alike hKc, nw_warm hW hN⟩⟩ rfl rfl hl.1 rfl (lv_room (Nat.le_of_ble_eq_true rfl)) dX0_manyOfOrder_61 ⟨Nat.le_of_ble_eq_true rfl, Nat.le_of_ble_eq_true rfl⟩) (fun q9 eq9 => ?_)
            subst q9
            refine lv_isub hx hb dX0_manyOfOrder_64 ?_
            refine lv_imul hx hb dX0_manyOfOrder_65 ?_
            refine lv_topi (fun v18 ev18 => ?_)
            replace h := mi_use ev18 h
            refine lv_istore_n (lv' := [(2, .int v18), (3, .int v13), (6, .int r11), (5, .int r10), (4, .int x4), (0, .ref h0), (1, .int a0)]) hx hb dX0_manyOfOrder_66 rfl hl (by decide) rfl (fun ls hl => ?_)
            obtain ⟨v19, ev19⟩ : ∃ z : Int32, z = x4 + 1 := ⟨_, rfl⟩
            refine lv_iinc (v := v19) (lv' := [(4, .int v19), (2, .int v18), (3, .int v13), (6, .int r11), (5, .int r10), (0, .ref h0), (1, .int a0)]) hx hb dX0_manyOfOrder_67 hl (k := 4) rfl (by rw [ev19]; rfl) (by decide) rfl (fun ls hl => ?_)
            replace h := mi_use ev19 h
            refine lv_goto (tgt := 17) hx hb dX0_manyOfOrder_70 (by decide) ?_
            exact ih _ _ _ _ (hA _ (Option.some.inj h).symm) hkE ls (lv_sub hl [1, 2, 0, 5, 6] rfl)
    obtain ⟨o20, ho20, h⟩ := Option.bind_eq_some_iff.mp h
    refine L17 N _ _ _ o20 ho20 ?_ ls (lv_sub hl [2, 1, 0, 3, 4] rfl)
    intro y5 y6 y7 eo ls hl
    subst eo
    try dsimp only at h
    refine lv_iload_n hx hb dX0_manyOfOrder_73 rfl (lv_at hl 0 rfl) ?_
    have hv : y5 = rr := Option.some.inj h
    exact W.iret (v := y5) hx hb hr (fun t ht hW => ⟨_, rfl, hv, ht⟩) (fun q hq => absurd hq List.not_mem_nil) dX0_manyOfOrder_74
  · replace h := (if_neg c1).symm.trans h
    refine lv_iconst (v := 0) hx hb dX0_manyOfOrder_8 (by decide) ?_
    have hv : 0 = rr := Option.some.inj h
    exact W.iret (v := 0) hx hb hr (fun t ht hW => ⟨_, rfl, hv, ht⟩) (fun q hq => absurd hq List.not_mem_nil) dX0_manyOfOrder_9
def mX0_isProvedBy (N : Nat) (t_p : Int32) (a0 : Int32) : Option (Int32) := if 1 ≤ a0 then (mX4_reachOf N t_p).bind (fun r2 => if a0 = 0 then none else mi_let (((t_p + 1) + r2) / a0) (fun v4 => if a0 = 0 then none else mi_let ((t_p - r2) / a0) (fun v6 => if (v4 - v6) = 1 then some 1 else some 0))) else some 0
abbrev rmX0_isProvedBy : Room := { frames := 1, cells := 0, slots := 0, locals := 21 }
set_option maxHeartbeats 4000000 in
set_option maxRecDepth 100000 in
theorem ctX0_isProvedBy (l : Launch) (N : Nat) (dC : Nat → ClassId) (dI : Nat → Nat → Nat) (h0 : Nat) (t_p : Int32) (t_a : Int32) (t_b : Int32) (t_from : Int32) (t_kernelPoint : Int32) (t_kernelOrder : Int32) (t_points : Int32) (t_inner : Int32) (t_outer : Int32) (t_makersFound : Int32) (t_first : Int32) (t_second : Int32) (a0 : Int32) (rr : Int32) (h : mX0_isProvedBy N t_p a0 = some rr) : Met l yX0_isProvedBy wsX0_isProvedBy rmX0_isProvedBy (va_Pc [.ref h0, .int a0] (fun U => va_P (dC, dI) vwCl [(h0, .inr (0, [.int t_p, .int t_a, .int t_b, .int t_from, .int t_kernelPoint, .int t_kernelOrder, .int t_points, .int t_inner, .int t_outer, .int t_makersFound, .int t_first, .int t_second]))] U.heap ∧ va_K (dC, dI) vwCl [] U ∧ nw_all U)) (vp_Si (fun r => r = rr)) 0 0 (fun _ => False) := by
  refine Met.ofW (cc := cX0_isProvedBy) (maxL := 3) (ret := (some .boolean)) (by decide) rfl ?_
  intro p e s m args below meth c s₁ B hml hv
  obtain ⟨rfl, hP, hK, hN⟩ := hv
  have hx := B.exec
  have hb := B.bytes
  have hr := B.returns
  have hts := atoms_spec (ws := wsX0_isProvedBy) B.pre
  have hown : s.vm.findClass RX0 = some m.cls := findClass_of_methodNamed B.named
  have hlocks := B.notSynchronized
  have hl := lv_entry ([.ref h0, .int a0]) (n := 3) (Nat.le_of_ble_eq_true rfl)
  rw [lg_entry_eq]
  generalize (lg_sl ([.ref h0, .int a0]) ++ List.replicate (3 - (lg_sl ([.ref h0, .int a0])).length) Slot.unset).toArray = ls at hl ⊢
  have hl : lv_has ls 3 [(0, .ref h0), (1, .int a0)] := hl
  dsimp only [mX0_isProvedBy] at h
  refine lv_iload_n hx hb dX0_isProvedBy_0 rfl (lv_at hl 1 rfl) ?_
  refine lv_iconst (v := 1) hx hb dX0_isProvedBy_1 (by decide) ?_
  refine lv_icmp_ge (tgt := 7) hx hb dX0_isProvedBy_2 (by decide) (fun c1 => ?_) (fun c1 => ?_)
  · replace h := (if_pos c1).symm.trans h
    refine lv_aload_n hx hb dX0_isProvedBy_7 rfl (lv_at hl 0 rfl) ?_
    refine va_get (D := (dC, dI)) (ci := 0) (v := .int t_p) (C := RX0) (T := TX0) (N := 12) hx hb hts (by decide +kernel) hown hK hP 0 rfl rfl 0 (by decide) (hts (.fieldLink RX0 9 "PointRings$Curve" "p" "I") (by decide +kernel)) (fun _ h9 => h9) rfl dX0_isProvedBy_8 ?_
    obtain ⟨r2, hr2, h⟩ := Option.bind_eq_some_iff.mp h
    refine vp_callSi (W.runS (As := [.int t_p]) (rest := []) ⟨hx, hb, hml, hown, hts⟩ (ctX4_reachOf l N  t_p r2 hr2) (va_cwS 1 hts gX0_isProvedBy_X4_reachOf rfl rfl rfl (by decide +kernel) ⟨Nat.le_of_ble_eq_true rfl, Nat.le_of_ble_eq_true rfl⟩) preEq rfl rfl hl.1 rfl (lv_room (Nat.le_of_ble_eq_true rfl)) dX0_isProvedBy_11 ⟨Nat.le_of_ble_eq_true rfl, Nat.le_of_ble_eq_true rfl⟩) (fun q9 eq9 => ?_)
    subst q9
    refine lv_istore_n (lv' := [(2, .int r2), (0, .ref h0), (1, .int a0)]) hx hb dX0_isProvedBy_14 rfl hl (by decide) rfl (fun ls hl => ?_)
    refine lv_aload_n hx hb dX0_isProvedBy_15 rfl (lv_at hl 1 rfl) ?_
    refine va_get (D := (dC, dI)) (ci := 0) (v := .int t_p) (C := RX0) (T := TX0) (N := 12) hx hb hts (by decide +kernel) hown hK hP 0 rfl rfl 0 (by decide) (hts (.fieldLink RX0 9 "PointRings$Curve" "p" "I") (by decide +kernel)) (fun _ h9 => h9) rfl dX0_isProvedBy_16 ?_
    refine lv_iconst (v := 1) hx hb dX0_isProvedBy_19 (by decide) ?_
    refine lv_iadd hx hb dX0_isProvedBy_20 ?_
    refine lv_iload_n hx hb dX0_isProvedBy_21 rfl (lv_at hl 0 rfl) ?_
    refine lv_iadd hx hb dX0_isProvedBy_22 ?_
    refine lv_iload_n hx hb dX0_isProvedBy_23 rfl (lv_at hl 2 rfl) ?_
    have hn3 : ¬ a0 = 0 := fun hz => absurd ((if_pos hz).symm.trans h) (fun hh => nomatch hh)
    replace h := (if_neg hn3).symm.trans h
    refine lv_idiv hx hb dX0_isProvedBy_24 hn3 ?_
    refine lv_topi (fun v4 ev4 => ?_)
    replace h := mi_use ev4 h
    refine lv_aload_n hx hb dX0_isProvedBy_25 rfl (lv_at hl 1 rfl) ?_
    refine va_get (D := (dC, dI)) (ci := 0) (v := .int t_p) (C := RX0) (T := TX0) (N := 12) hx hb hts (by decide +kernel) hown hK hP 0 rfl rfl 0 (by decide) (hts (.fieldLink RX0 9 "PointRings$Curve" "p" "I") (by decide +kernel)) (fun _ h9 => h9) rfl dX0_isProvedBy_26 ?_
    refine lv_iload_n hx hb dX0_isProvedBy_29 rfl (lv_at hl 0 rfl) ?_
    refine lv_isub hx hb dX0_isProvedBy_30 ?_
    refine lv_iload_n hx hb dX0_isProvedBy_31 rfl (lv_at hl 2 rfl) ?_
    have hn5 : ¬ a0 = 0 := fun hz => absurd ((if_pos hz).symm.trans h) (fun hh => nomatch hh)
    replace h := (if_neg hn5).symm.trans h
    refine lv_idiv hx hb dX0_isProvedBy_32 hn5 ?_
    refine lv_topi (fun v6 ev6 => ?_)
    replace h := mi_use ev6 h
    refine lv_isub hx hb dX0_isProvedBy_33 ?_
    refine lv_iconst (v := 1) hx hb dX0_isProvedBy_34 (by decide) ?_
    refine lv_icmp_ne (tgt := 42) hx hb dX0_isProvedBy_35 (by decide) (fun c7 => ?_) (fun c7 => ?_)
    · replace h := (if_neg c7).symm.trans h
      refine lv_iconst (v := 0) hx hb dX0_isProvedBy_42 (by decide) ?_
      have hv : 0 = rr := Option.some.inj h
      exact W.zret (v := 0) hx hb hr (by decide) (fun t ht hW => ⟨_, rfl, hv, ht⟩) (fun q hq => absurd hq List.not_mem_nil) dX0_isProvedBy_43
    · replace h := (if_pos c7).symm.trans h
      refine lv_iconst (v := 1) hx hb dX0_isProvedBy_38 (by decide) ?_
      refine lv_goto (tgt := 43) hx hb dX0_isProvedBy_39 (by decide) ?_
      have hv : 1 = rr := Option.some.inj h
      exact W.zret (v := 1) hx hb hr (by decide) (fun t ht hW => ⟨_, rfl, hv, ht⟩) (fun q hq => absurd hq List.not_mem_nil) dX0_isProvedBy_43
  · replace h := (if_neg c1).symm.trans h
    refine lv_iconst (v := 0) hx hb dX0_isProvedBy_5 (by decide) ?_
    have hv : 0 = rr := Option.some.inj h
    exact W.zret (v := 0) hx hb hr (by decide) (fun t ht hW => ⟨_, rfl, hv, ht⟩) (fun q hq => absurd hq List.not_mem_nil) dX0_isProvedBy_6
def mX0_dividedBy_b11 (N : Nat) (t_p : Int32) (t_a : Int32) (t_b : Int32) (a0 : Int32) (st : Int32 × Int32 × Int32 × Int32) : Option ((Int32 × Int32 × Int32 × Int32) ⊕ (Int32 × Int32 × Int32 × Int32)) :=
  match st with
  | (x1, x2, x3, x4) => if 400 ≤ x3 then some (.inr (x1, x2, x3, x4)) else if x4 = (-1) then some (.inr (x1, x2, x3, x4)) else (mX5_xOf N x4).bind (fun r11 => if t_p = 0 then none else mi_let (mi_rem (r11 * r11) t_p) (fun v13 => if t_p = 0 then none else mi_let (mi_rem ((x1 + (3 * v13)) + t_a) t_p) (fun v15 => if t_p = 0 then none else mi_let (mi_rem (((x2 + ((5 * v13) * r11)) + ((3 * t_a) * r11)) + (2 * t_b)) t_p) (fun v17 => (mX0_sum N t_p t_a x4 a0).bind (fun r18 => mi_let (x3 + 1) (fun v19 => some (.inl (v15, v17, v19, r18))))))))
def mX0_dividedBy (N : Nat) (t_p : Int32) (t_a : Int32) (t_b : Int32) (a0 : Int32) (a1 : Int32) : Option ((Unit) ⊕ (Int32 × Int32 × Int32 × Int32 × Int32 × Int32 × Int32 × Int32 × Int32 × Int32 × Int32 × Int32)) := (mi_run (mX0_dividedBy_b11 N t_p t_a t_b a0) N (0, 0, 1, a0)).bind (fun o20 => match o20 with | (y5, y6, y7, y8) => if y8 = (-1) then (mJ9_floorMod_7cf53 N (t_a - (5 * y5)) t_p).bind (fun r22 => (mJ9_floorMod_7cf53 N (t_b - (7 * y6)) t_p).bind (fun r23 => (mX0_init N t_p r22 r23).bind (fun r24 => match r24 with | (u25, u26, u27, u28, u29) => some (.inr (u25, u26, u27, a1, a0, y7, 0, 0, 0, 0, u28, u29))))) else some (.inl ()))
abbrev rmX0_dividedBy_l : Room := { frames := 2, cells := 1, slots := 12, locals := 60 }
set_option maxHeartbeats 4000000 in
set_option maxRecDepth 100000 in
theorem ctX0_dividedBy_l (l : Launch) (N : Nat) (dC : Nat → ClassId) (dI : Nat → Nat → Nat) (sz : Nat) (h0 : Nat) (t_p : Int32) (t_a : Int32) (t_b : Int32) (t_from : Int32) (t_kernelPoint : Int32) (t_kernelOrder : Int32) (t_points : Int32) (t_inner : Int32) (t_outer : Int32) (t_makersFound : Int32) (t_first : Int32) (t_second : Int32) (a0 : Int32) (a1 : Int32) (rr : Unit) (h : mX0_dividedBy N t_p t_a t_b a0 a1 = some (.inl rr)) : Met l yX0_dividedBy wsX0_dividedBy rmX0_dividedBy_l (va_Pc [.ref h0, .int a0, .int a1] (fun U => U.heap.size = sz ∧ va_P (dC, dI) vwCl [(h0, .inr (0, [.int t_p, .int t_a, .int t_b, .int t_from, .int t_kernelPoint, .int t_kernelOrder, .int t_points, .int t_inner, .int t_outer, .int t_makersFound, .int t_first, .int t_second]))] U.heap ∧ va_K (dC, dI) vwCl [] U ∧ nw_all U ∧ va_D (fun _ => True) [(h0, .inr (0, [.int t_p, .int t_a, .int t_b, .int t_from, .int t_kernelPoint, .int t_kernelOrder, .int t_points, .int t_inner, .int t_outer, .int t_makersFound, .int t_first, .int t_second]))])) (va_Qq (fun (r : Option Nat) (u : Unit) => r = none) (fun (u : Unit) t => va_P (dC, dI) vwCl [(h0, .inr (0, [.int t_p, .int t_a, .int t_b, .int t_from, .int t_kernelPoint, .int t_kernelOrder, .int t_points, .int t_inner, .int t_outer, .int t_makersFound, .int t_first, .int t_second]))] t.heap ∧ va_K (dC, dI) vwCl [] t ∧ va_D (va_A [(h0, .inr (0, [.int t_p, .int t_a, .int t_b, .int t_from, .int t_kernelPoint, .int t_kernelOrder, .int t_points, .int t_inner, .int t_outer, .int t_makersFound, .int t_first, .int t_second]))] sz) [(h0, .inr (0, [.int t_p, .int t_a, .int t_b, .int t_from, .int t_kernelPoint, .int t_kernelOrder, .int t_points, .int t_inner, .int t_outer, .int t_makersFound, .int t_first, .int t_second]))]) (va_A [(h0, .inr (0, [.int t_p, .int t_a, .int t_b, .int t_from, .int t_kernelPoint, .int t_kernelOrder, .int t_points, .int t_inner, .int t_outer, .int t_makersFound, .int t_first, .int t_second]))] sz)) 1 12 (va_A [(h0, .inr (0, [.int t_p, .int t_a, .int t_b, .int t_from, .int t_kernelPoint, .int t_kernelOrder, .int t_points, .int t_inner, .int t_outer, .int t_makersFound, .int t_first, .int t_second]))] sz) := by
  refine Met.ofW (cc := cX0_dividedBy) (maxL := 9) (ret := (some (.object "PointRings$Curve"))) (by decide) rfl ?_
  intro p e s m args below meth c s₁ B hml hv
  obtain ⟨rfl, hsz, hP, hK, hN, hD0⟩ := hv
  have hx := B.exec
  have hb := B.bytes
  have hr := B.returns
  have hts := atoms_spec (ws := wsX0_dividedBy) B.pre
  have hown : s.vm.findClass RX0 = some m.cls := findClass_of_methodNamed B.named
  have hlocks := B.notSynchronized
  subst hsz
  have hD := hD0.self (sz := s.heap.size)
  generalize hAe : va_A [(h0, .inr (0, [.int t_p, .int t_a, .int t_b, .int t_from, .int t_kernelPoint, .int t_kernelOrder, .int t_points, .int t_inner, .int t_outer, .int t_makersFound, .int t_first, .int t_second]))] s.heap.size = A at hD ⊢
  have hA0 : ∀ q : Nat, s.heap.size ≤ q → A q := fun q h => by rw [← hAe]; exact Or.inr h
  have hS : va_S A s.heap s.heap [] := va_S.rf
  have hP : va_P (dC, dI) vwCl [(h0, .inr (0, [.int t_p, .int t_a, .int t_b, .int t_from, .int t_kernelPoint, .int t_kernelOrder, .int t_points, .int t_inner, .int t_outer, .int t_makersFound, .int t_first, .int t_second]))] s.heap := hP
  have hl := lv_entry ([.ref h0, .int a0, .int a1]) (n := 9) (Nat.le_of_ble_eq_true rfl)
  rw [lg_entry_eq]
  generalize (lg_sl ([.ref h0, .int a0, .int a1]) ++ List.replicate (9 - (lg_sl ([.ref h0, .int a0, .int a1])).length) Slot.unset).toArray = ls at hl ⊢
  have hl : lv_has ls 9 [(0, .ref h0), (1, .int a0), (2, .int a1)] := hl
  dsimp only [mX0_dividedBy] at h
  refine lv_iconst (v := 0) hx hb dX0_dividedBy_0 (by decide) ?_
  refine lv_istore_n (lv' := [(3, .int 0), (0, .ref h0), (1, .int a0), (2, .int a1)]) hx hb dX0_dividedBy_1 rfl hl (by decide) rfl (fun ls hl => ?_)
  refine lv_iconst (v := 0) hx hb dX0_dividedBy_2 (by decide) ?_
  refine lv_istore (lv' := [(4, .int 0), (3, .int 0), (0, .ref h0), (1, .int a0), (2, .int a1)]) hx hb dX0_dividedBy_3 hl (by decide) rfl (fun ls hl => ?_)
  refine lv_iconst (v := 1) hx hb dX0_dividedBy_5 (by decide) ?_
  refine lv_istore (lv' := [(5, .int 1), (4, .int 0), (3, .int 0), (0, .ref h0), (1, .int a0), (2, .int a1)]) hx hb dX0_dividedBy_6 hl (by decide) rfl (fun ls hl => ?_)
  refine lv_iload_n hx hb dX0_dividedBy_8 rfl (lv_at hl 4 rfl) ?_
  refine lv_istore (lv' := [(6, .int a0), (5, .int 1), (4, .int 0), (3, .int 0), (0, .ref h0), (1, .int a0), (2, .int a1)]) hx hb dX0_dividedBy_9 hl (by decide) rfl (fun ls hl => ?_)
  have L11 : ∀ (n : Nat) (x1 : Int32) (x2 : Int32) (x3 : Int32) (x4 : Int32) (o : Int32 × Int32 × Int32 × Int32), mi_run (mX0_dividedBy_b11 N t_p t_a t_b a0) n (x1, x2, x3, x4) = some o → (∀ (y5 : Int32) (y6 : Int32) (y7 : Int32) (y8 : Int32), o = (y5, y6, y7, y8) → ∀ (H : Heap) (locs : List Loc) (ls : Array Slot), va_P (dC, dI) vwCl [(h0, .inr (0, [.int t_p, .int t_a, .int t_b, .int t_from, .int t_kernelPoint, .int t_kernelOrder, .int t_points, .int t_inner, .int t_outer, .int t_makersFound, .int t_first, .int t_second]))] H → va_D A [(h0, .inr (0, [.int t_p, .int t_a, .int t_b, .int t_from, .int t_kernelPoint, .int t_kernelOrder, .int t_points, .int t_inner, .int t_outer, .int t_makersFound, .int t_first, .int t_second]))] → va_S A s.heap H locs → lv_has ls 9 [(3, .int y5), (4, .int y6), (5, .int y7), (6, .int y8), (0, .ref h0), (1, .int a0), (2, .int a1)] → W p l e (headSpec wsX0_dividedBy rmX0_dividedBy_l).room s m (([.ref h0, .int a0, .int a1] : List Value).toArray) below meth c H locs 0 0 (MQ below (va_Qq (fun (r : Option Nat) (u : Unit) => r = none) (fun (u : Unit) t => va_P (dC, dI) vwCl [(h0, .inr (0, [.int t_p, .int t_a, .int t_b, .int t_from, .int t_kernelPoint, .int t_kernelOrder, .int t_points, .int t_inner, .int t_outer, .int t_makersFound, .int t_first, .int t_second]))] t.heap ∧ va_K (dC, dI) vwCl [] t ∧ va_D (A) [(h0, .inr (0, [.int t_p, .int t_a, .int t_b, .int t_from, .int t_kernelPoint, .int t_kernelOrder, .int t_points, .int t_inner, .int t_outer, .int t_makersFound, .int t_first, .int t_second]))]) (A)) (([.ref h0, .int a0, .int a1] : List Value).toArray) s 1 12 A) (F0 m 110 ls [])) → ∀ (H : Heap) (locs : List Loc) (ls : Array Slot), va_P (dC, dI) vwCl [(h0, .inr (0, [.int t_p, .int t_a, .int t_b, .int t_from, .int t_kernelPoint, .int t_kernelOrder, .int t_points, .int t_inner, .int t_outer, .int t_makersFound, .int t_first, .int t_second]))] H → va_D A [(h0, .inr (0, [.int t_p, .int t_a, .int t_b, .int t_from, .int t_kernelPoint, .int t_kernelOrder, .int t_points, .int t_inner, .int t_outer, .int t_makersFound, .int t_first, .int t_second]))] → va_S A s.heap H locs → lv_has ls 9 [(3, .int x1), (4, .int x2), (5, .int x3), (6, .int x4), (0, .ref h0), (1, .int a0), (2, .int a1)] → W p l e (headSpec wsX0_dividedBy rmX0_dividedBy_l).room s m (([.ref h0, .int a0, .int a1] : List Value).toArray) below meth c H locs 0 0 (MQ below (va_Qq (fun (r : Option Nat) (u : Unit) => r = none) (fun (u : Unit) t => va_P (dC, dI) vwCl [(h0, .inr (0, [.int t_p, .int t_a, .int t_b, .int t_from, .int t_kernelPoint, .int t_kernelOrder, .int t_points, .int t_inner, .int t_outer, .int t_makersFound, .int t_first, .int t_second]))] t.heap ∧ va_K (dC, dI) vwCl [] t ∧ va_D (A) [(h0, .inr (0, [.int t_p, .int t_a, .int t_b, .int t_from, .int t_kernelPoint, .int t_kernelOrder, .int t_points, .int t_inner, .int t_outer, .int t_makersFound, .int t_first, .int t_second]))]) (A)) (([.ref h0, .int a0, .int a1] : List Value).toArray) s 1 12 A) (F0 m 11 ls []) := by
    intro n
    induction n with
    | zero => intro x1 x2 x3 x4 o h; exact absurd h (mi_run_0 _ _ _)
    | succ n ih =>
      intro x1 x2 x3 x4 o h hkE H locs ls hP hD hS hl
      obtain ⟨w, h, hA, hB⟩ := mi_run_s h
      dsimp only [mX0_dividedBy_b11] at h
      refine lv_iload hx hb dX0_dividedBy_11 (lv_at hl 2 rfl) ?_
      refine lv_sipush (v := 400) hx hb dX0_dividedBy_13 (by decide) ?_
      refine lv_icmp_ge (tgt := 110) hx hb dX0_dividedBy_16 (by decide) (fun c9 => ?_) (fun c9 => ?_)
      · replace h := (if_pos c9).symm.trans h
        exact hkE _ _ _ _ (hB _ (Option.some.inj h).symm) _ _ ls hP hD hS (lv_sub hl [0, 1, 2, 3, 4, 5, 6] rfl)
      · replace h := (if_neg c9).symm.trans h
        refine lv_iload hx hb dX0_dividedBy_19 (lv_at hl 3 rfl) ?_
        refine lv_iconst (v := (-1)) hx hb dX0_dividedBy_21 (by decide) ?_
        refine lv_icmp_eq (tgt := 110) hx hb dX0_dividedBy_22 (by decide) (fun c10 => ?_) (fun c10 => ?_)
        · replace h := (if_pos c10).symm.trans h
          exact hkE _ _ _ _ (hB _ (Option.some.inj h).symm) _ _ ls hP hD hS (lv_sub hl [0, 1, 2, 3, 4, 5, 6] rfl)
        · replace h := (if_neg c10).symm.trans h
          refine lv_iload hx hb dX0_dividedBy_25 (lv_at hl 3 rfl) ?_
          obtain ⟨r11, hr11, h⟩ := Option.bind_eq_some_iff.mp h
          refine vp_callSi (mi_cr (va_runSN (As := [.int x4]) (rest := []) ⟨hx, hb, hml, hown, hts⟩ (ctX5_xOf l N  x4 r11 hr11) ⟨va_cnB 1 hts gX0_dividedBy_X5_xOf_n27 rfl rfl rfl (nw_X0_27 hN) (hts (.initialized RX5) (by decide +kernel)) (by decide +kernel) ⟨Nat.le_of_ble_eq_true rfl, Nat.le_of_ble_eq_true rfl⟩, hts (.static yX5_xOf) (by decide +kernel), trivial⟩ preEq rfl rfl hl.1 rfl (lv_room (Nat.le_of_ble_eq_true rfl)) dX0_dividedBy_27 ⟨Nat.le_of_ble_eq_true rfl, Nat.le_of_ble_eq_true rfl⟩)) (fun q9 eq9 => ?_)
          subst q9
          refine lv_istore (lv' := [(7, .int r11), (3, .int x1), (4, .int x2), (5, .int x3), (6, .int x4), (0, .ref h0), (1, .int a0), (2, .int a1)]) hx hb dX0_dividedBy_30 hl (by decide) rfl (fun ls hl => ?_)
          refine lv_iload hx hb dX0_dividedBy_32 (lv_at hl 0 rfl) ?_
          refine lv_iload hx hb dX0_dividedBy_34 (lv_at hl 0 rfl) ?_
          refine lv_imul hx hb dX0_dividedBy_36 ?_
          refine lv_aload_n hx hb dX0_dividedBy_37 rfl (lv_at hl 5 rfl) ?_
          refine va_get (D := (dC, dI)) (ci := 0) (v := .int t_p) (C := RX0) (T := TX0) (N := 12) hx hb hts (by decide +kernel) hown hK hP 0 rfl rfl 0 (by decide) (hts (.fieldLink RX0 9 "PointRings$Curve" "p" "I") (by decide +kernel)) (fun _ h9 => h9) rfl dX0_dividedBy_38 ?_
          have hn12 : ¬ t_p = 0 := fun hz => absurd ((if_pos hz).symm.trans h) (fun hh => nomatch hh)
          replace h := (if_neg hn12).symm.trans h
          refine lv_irem hx hb dX0_dividedBy_41 hn12 ?_
          refine lv_topi (fun v13 ev13 => ?_)
          replace h := mi_use ev13 h
          refine lv_istore (lv' := [(8, .int v13), (7, .int r11), (3, .int x1), (4, .int x2), (5, .int x3), (6, .int x4), (0, .ref h0), (1, .int a0), (2, .int a1)]) hx hb dX0_dividedBy_42 hl (by decide) rfl (fun ls hl => ?_)
          refine lv_iload_n hx hb dX0_dividedBy_44 rfl (lv_at hl 2 rfl) ?_
          refine lv_iconst (v := 3) hx hb dX0_dividedBy_45 (by decide) ?_
          refine lv_iload hx hb dX0_dividedBy_46 (lv_at hl 0 rfl) ?_
          refine lv_imul hx hb dX0_dividedBy_48 ?_
          refine lv_iadd hx hb dX0_dividedBy_49 ?_
          refine lv_aload_n hx hb dX0_dividedBy_50 rfl (lv_at hl 6 rfl) ?_
          refine va_get (D := (dC, dI)) (ci := 0) (v := .int t_a) (C := RX0) (T := TX0) (N := 12) hx hb hts (by decide +kernel) hown hK hP 0 rfl rfl 1 (by decide) (hts (.fieldLink RX0 15 "PointRings$Curve" "a" "I") (by decide +kernel)) (fun _ h9 => h9) rfl dX0_dividedBy_51 ?_
          refine lv_iadd hx hb dX0_dividedBy_54 ?_
          refine lv_aload_n hx hb dX0_dividedBy_55 rfl (lv_at hl 6 rfl) ?_
          refine va_get (D := (dC, dI)) (ci := 0) (v := .int t_p) (C := RX0) (T := TX0) (N := 12) hx hb hts (by decide +kernel) hown hK hP 0 rfl rfl 0 (by decide) (hts (.fieldLink RX0 9 "PointRings$Curve" "p" "I") (by decide +kernel)) (fun _ h9 => h9) rfl dX0_dividedBy_56 ?_
          have hn14 : ¬ t_p = 0 := fun hz => absurd ((if_pos hz).symm.trans h) (fun hh => nomatch hh)
          replace h := (if_neg hn14).symm.trans h
          refine lv_irem hx hb dX0_dividedBy_59 hn14 ?_
          refine lv_topi (fun v15 ev15 => ?_)
          replace h := mi_use ev15 h
          refine lv_istore_n (lv' := [(3, .int v15), (8, .int v13), (7, .int r11), (4, .int x2), (5, .int x3), (6, .int x4), (0, .ref h0), (1, .int a0), (2, .int a1)]) hx hb dX0_dividedBy_60 rfl hl (by decide) rfl (fun ls hl => ?_)
          refine lv_iload hx hb dX0_dividedBy_61 (lv_at hl 3 rfl) ?_
          refine lv_iconst (v := 5) hx hb dX0_dividedBy_63 (by decide) ?_
          refine lv_iload hx hb dX0_dividedBy_64 (lv_at hl 1 rfl) ?_
          refine lv_imul hx hb dX0_dividedBy_66 ?_
          refine lv_iload hx hb dX0_dividedBy_67 (lv_at hl 2 rfl) ?_
          refine lv_imul hx hb dX0_dividedBy_69 ?_
          refine lv_iadd hx hb dX0_dividedBy_70 ?_
          refine lv_iconst (v := 3) hx hb dX0_dividedBy_71 (by decide) ?_
          refine lv_aload_n hx hb dX0_dividedBy_72 rfl (lv_at hl 6 rfl) ?_
          refine va_get (D := (dC, dI)) (ci := 0) (v := .int t_a) (C := RX0) (T := TX0) (N := 12) hx hb hts (by decide +kernel) hown hK hP 0 rfl rfl 1 (by decide) (hts (.fieldLink RX0 15 "PointRings$Curve" "a" "I") (by decide +kernel)) (fun _ h9 => h9) rfl dX0_dividedBy_73 ?_
          refine lv_imul hx hb dX0_dividedBy_76 ?_
          refine lv_iload hx hb dX0_dividedBy_77 (lv_at hl 2 rfl) ?_
          refine lv_imul hx hb dX0_dividedBy_79 ?_
          refine lv_iadd hx hb dX0_dividedBy_80 ?_
          refine lv_iconst (v := 2) hx hb dX0_dividedBy_81 (by decide) ?_
          refine lv_aload_n hx hb dX0_dividedBy_82 rfl (lv_at hl 6 rfl) ?_
          refine va_get (D := (dC, dI)) (ci := 0) (v := .int t_b) (C := RX0) (T := TX0) (N := 12) hx hb hts (by decide +kernel) hown hK hP 0 rfl rfl 2 (by decide) (hts (.fieldLink RX0 18 "PointRings$Curve" "b" "I") (by decide +kernel)) (fun _ h9 => h9) rfl dX0_dividedBy_83 ?_
          refine lv_imul hx hb dX0_dividedBy_86 ?_
          refine lv_iadd hx hb dX0_dividedBy_87 ?_
          refine lv_aload_n hx hb dX0_dividedBy_88 rfl (lv_at hl 6 rfl) ?_
          refine va_get (D := (dC, dI)) (ci := 0) (v := .int t_p) (C := RX0) (T := TX0) (N := 12) hx hb hts (by decide +kernel) hown hK hP 0 rfl rfl 0 (by decide) (hts (.fieldLink RX0 9 "PointRings$Curve" "p" "I") (by decide +kernel)) (fun _ h9 => h9) rfl dX0_dividedBy_89 ?_
          have hn16 : ¬ t_p = 0 := fun hz => absurd ((if_pos hz).symm.trans h) (fun hh => nomatch hh)
          replace h := (if_neg hn16).symm.trans h
          refine lv_irem hx hb dX0_dividedBy_92 hn16 ?_
          refine lv_topi (fun v17 ev17 => ?_)
          replace h := mi_use ev17 h
          refine lv_istore (lv' := [(4, .int v17), (3, .int v15), (8, .int v13), (7, .int r11), (5, .int x3), (6, .int x4), (0, .ref h0), (1, .int a0), (2, .int a1)]) hx hb dX0_dividedBy_93 hl (by decide) rfl (fun ls hl => ?_)
          refine lv_aload_n hx hb dX0_dividedBy_95 rfl (lv_at hl 6 rfl) ?_
          refine lv_iload hx hb dX0_dividedBy_96 (lv_at hl 5 rfl) ?_
          refine lv_iload_n hx hb dX0_dividedBy_98 rfl (lv_at hl 7 rfl) ?_
          obtain ⟨r18, hr18, h⟩ := Option.bind_eq_some_iff.mp h
          have hPc := hP.sub (ws' := [(h0, .inr (0, [.int t_p, .int t_a, .int t_b, .int t_from, .int t_kernelPoint, .int t_kernelOrder, .int t_points, .int t_inner, .int t_outer, .int t_makersFound, .int t_first, .int t_second]))]) [0] rfl
          have hKc := hK.sub (tys' := []) [] rfl
          refine vp_callSi (W.runV (As := [.int x4, .int a0]) (rest := []) ⟨hx, hb, hml, hown, hts⟩ (ctX0_sum l N dC dI  h0 t_p t_a t_b t_from t_kernelPoint t_kernelOrder t_points t_inner t_outer t_makersFound t_first t_second x4 a0 r18 hr18) (cwV 2 hts gX0_dividedBy_X0_sum rfl rfl rfl (by decide +kernel) ⟨Nat.le_of_ble_eq_true rfl, Nat.le_of_ble_eq_true rfl⟩) ⟨fun a U g mk q => by obtain ⟨q0, qP, qK, qN⟩ := q; exact ⟨q0, qP, va_K.moved (u := U) (U := U.calling g mk a) (Vm.Alike.refl U.vm) qK, nw_same (u := U) (U := U.calling g mk a) rfl qN⟩, va_recv hKc hPc (ci := 0) (q0 := 0) rfl rfl, fun U hU hW => ⟨rfl, by rw [hU]; exact hPc, va_K.moved hW.alike hKc, nw_warm hW hN⟩⟩ rfl rfl hl.1 rfl (lv_room (Nat.le_of_ble_eq_true rfl)) dX0_dividedBy_99 ⟨Nat.le_of_ble_eq_true rfl, Nat.le_of_ble_eq_true rfl⟩) (fun q9 eq9 => ?_)
          subst q9
          refine lv_istore (lv' := [(6, .int r18), (4, .int v17), (3, .int v15), (8, .int v13), (7, .int r11), (5, .int x3), (0, .ref h0), (1, .int a0), (2, .int a1)]) hx hb dX0_dividedBy_102 hl (by decide) rfl (fun ls hl => ?_)
          obtain ⟨v19, ev19⟩ : ∃ z : Int32, z = x3 + 1 := ⟨_, rfl⟩
          refine lv_iinc (v := v19) (lv' := [(5, .int v19), (6, .int r18), (4, .int v17), (3, .int v15), (8, .int v13), (7, .int r11), (0, .ref h0), (1, .int a0), (2, .int a1)]) hx hb dX0_dividedBy_104 hl (k := 5) rfl (by rw [ev19]; rfl) (by decide) rfl (fun ls hl => ?_)
          replace h := mi_use ev19 h
          refine lv_goto (tgt := 11) hx hb dX0_dividedBy_107 (by decide) ?_
          exact ih _ _ _ _ _ (hA _ (Option.some.inj h).symm) hkE _ _ ls hP hD hS (lv_sub hl [3, 2, 0, 1, 6, 7, 8] rfl)
  obtain ⟨o20, ho20, h⟩ := Option.bind_eq_some_iff.mp h
  refine L11 N _ _ _ _ o20 ho20 ?_ _ _ ls hP hD hS (lv_sub hl [3, 2, 1, 0, 4, 5, 6] rfl)
  intro y5 y6 y7 y8 eo H locs ls hP hD hS hl
  subst eo
  try dsimp only at h
  refine lv_iload hx hb dX0_dividedBy_110 (lv_at hl 3 rfl) ?_
  refine lv_iconst (v := (-1)) hx hb dX0_dividedBy_112 (by decide) ?_
  refine lv_icmp_eq (tgt := 118) hx hb dX0_dividedBy_113 (by decide) (fun c21 => ?_) (fun c21 => ?_)
  · replace h := (if_pos c21).symm.trans h
    refine va_new (ci := 0) (fs := [.int 0, .int 0, .int 0, .int 0, .int 0, .int 0, .int 0, .int 0, .int 0, .int 0, .int 0, .int 0]) (C := RX0) (T := TX0) (N := 12) hx hb hts (by decide +kernel) tyX0 tyX0_ok hown (hts (.classLink RX0 10 RX0) (by decide +kernel)) (hts (.instantiable RX0 12) (by decide +kernel)) (hts (.initialized RX0) (by decide +kernel)) hK hP hD hS hA0 rfl (fun j hj => by rcases (show j = 0 ∨ j = 1 ∨ j = 2 ∨ j = 3 ∨ j = 4 ∨ j = 5 ∨ j = 6 ∨ j = 7 ∨ j = 8 ∨ j = 9 ∨ j = 10 ∨ j = 11 by omega) with rfl | rfl | rfl | rfl | rfl | rfl | rfl | rfl | rfl | rfl | rfl | rfl <;> rfl) (by decide +kernel) (by decide +kernel) dX0_dividedBy_118 (fun q118 H hP hD hS => ?_)
    have hP : va_P (dC, dI) vwCl [(h0, .inr (0, [.int t_p, .int t_a, .int t_b, .int t_from, .int t_kernelPoint, .int t_kernelOrder, .int t_points, .int t_inner, .int t_outer, .int t_makersFound, .int t_first, .int t_second])), (q118, .inr (0, [.int 0, .int 0, .int 0, .int 0, .int 0, .int 0, .int 0, .int 0, .int 0, .int 0, .int 0, .int 0]))] H := hP
    have hD : va_D A [(h0, .inr (0, [.int t_p, .int t_a, .int t_b, .int t_from, .int t_kernelPoint, .int t_kernelOrder, .int t_points, .int t_inner, .int t_outer, .int t_makersFound, .int t_first, .int t_second])), (q118, .inr (0, [.int 0, .int 0, .int 0, .int 0, .int 0, .int 0, .int 0, .int 0, .int 0, .int 0, .int 0, .int 0]))] := hD
    refine lv_dup hx hb dX0_dividedBy_121 rfl ?_
    refine lv_aload_n hx hb dX0_dividedBy_122 rfl (lv_at hl 4 rfl) ?_
    refine va_get (D := (dC, dI)) (ci := 0) (v := .int t_p) (C := RX0) (T := TX0) (N := 12) hx hb hts (by decide +kernel) hown hK hP 0 rfl rfl 0 (by decide) (hts (.fieldLink RX0 9 "PointRings$Curve" "p" "I") (by decide +kernel)) (fun _ h9 => h9) rfl dX0_dividedBy_123 ?_
    refine lv_aload_n hx hb dX0_dividedBy_126 rfl (lv_at hl 4 rfl) ?_
    refine va_get (D := (dC, dI)) (ci := 0) (v := .int t_a) (C := RX0) (T := TX0) (N := 12) hx hb hts (by decide +kernel) hown hK hP 0 rfl rfl 1 (by decide) (hts (.fieldLink RX0 15 "PointRings$Curve" "a" "I") (by decide +kernel)) (fun _ h9 => h9) rfl dX0_dividedBy_127 ?_
    refine lv_iconst (v := 5) hx hb dX0_dividedBy_130 (by decide) ?_
    refine lv_iload_n hx hb dX0_dividedBy_131 rfl (lv_at hl 0 rfl) ?_
    refine lv_imul hx hb dX0_dividedBy_132 ?_
    refine lv_isub hx hb dX0_dividedBy_133 ?_
    refine lv_aload_n hx hb dX0_dividedBy_134 rfl (lv_at hl 4 rfl) ?_
    refine va_get (D := (dC, dI)) (ci := 0) (v := .int t_p) (C := RX0) (T := TX0) (N := 12) hx hb hts (by decide +kernel) hown hK hP 0 rfl rfl 0 (by decide) (hts (.fieldLink RX0 9 "PointRings$Curve" "p" "I") (by decide +kernel)) (fun _ h9 => h9) rfl dX0_dividedBy_135 ?_
    obtain ⟨r22, hr22, h⟩ := Option.bind_eq_some_iff.mp h
    refine vp_callSi (W.runS (As := [.int (t_a - (5 * y5)), .int t_p]) (rest := [.int t_p, .ref q118, .ref q118]) ⟨hx, hb, hml, hown, hts⟩ (ctJ9_floorMod_7cf53 l N  (t_a - (5 * y5)) t_p r22 hr22) (va_cwS 2 hts gX0_dividedBy_J9_floorMod_7cf53 rfl rfl rfl (by decide +kernel) ⟨Nat.le_of_ble_eq_true rfl, Nat.le_of_ble_eq_true rfl⟩) preEq rfl rfl hl.1 rfl (lv_room (Nat.le_of_ble_eq_true rfl)) dX0_dividedBy_138 ⟨Nat.le_of_ble_eq_true rfl, Nat.le_of_ble_eq_true rfl⟩) (fun q9 eq9 => ?_)
    subst q9
    refine lv_aload_n hx hb dX0_dividedBy_141 rfl (lv_at hl 4 rfl) ?_
    refine va_get (D := (dC, dI)) (ci := 0) (v := .int t_b) (C := RX0) (T := TX0) (N := 12) hx hb hts (by decide +kernel) hown hK hP 0 rfl rfl 2 (by decide) (hts (.fieldLink RX0 18 "PointRings$Curve" "b" "I") (by decide +kernel)) (fun _ h9 => h9) rfl dX0_dividedBy_142 ?_
    refine lv_bipush (v := 7) hx hb dX0_dividedBy_145 (by decide) ?_
    refine lv_iload hx hb dX0_dividedBy_147 (lv_at hl 1 rfl) ?_
    refine lv_imul hx hb dX0_dividedBy_149 ?_
    refine lv_isub hx hb dX0_dividedBy_150 ?_
    refine lv_aload_n hx hb dX0_dividedBy_151 rfl (lv_at hl 4 rfl) ?_
    refine va_get (D := (dC, dI)) (ci := 0) (v := .int t_p) (C := RX0) (T := TX0) (N := 12) hx hb hts (by decide +kernel) hown hK hP 0 rfl rfl 0 (by decide) (hts (.fieldLink RX0 9 "PointRings$Curve" "p" "I") (by decide +kernel)) (fun _ h9 => h9) rfl dX0_dividedBy_152 ?_
    obtain ⟨r23, hr23, h⟩ := Option.bind_eq_some_iff.mp h
    refine vp_callSi (W.runS (As := [.int (t_b - (7 * y6)), .int t_p]) (rest := [.int r22, .int t_p, .ref q118, .ref q118]) ⟨hx, hb, hml, hown, hts⟩ (ctJ9_floorMod_7cf53 l N  (t_b - (7 * y6)) t_p r23 hr23) (va_cwS 2 hts gX0_dividedBy_J9_floorMod_7cf53 rfl rfl rfl (by decide +kernel) ⟨Nat.le_of_ble_eq_true rfl, Nat.le_of_ble_eq_true rfl⟩) preEq rfl rfl hl.1 rfl (lv_room (Nat.le_of_ble_eq_true rfl)) dX0_dividedBy_155 ⟨Nat.le_of_ble_eq_true rfl, Nat.le_of_ble_eq_true rfl⟩) (fun q9 eq9 => ?_)
    subst q9
    obtain ⟨r24, hr24, h⟩ := Option.bind_eq_some_iff.mp h
    have hPc := hP.sub (ws' := [(q118, .inr (0, [.int 0, .int 0, .int 0, .int 0, .int 0, .int 0, .int 0, .int 0, .int 0, .int 0, .int 0, .int 0]))]) [1] rfl
    have hDc := hD.sub (ws' := [(q118, .inr (0, [.int 0, .int 0, .int 0, .int 0, .int 0, .int 0, .int 0, .int 0, .int 0, .int 0, .int 0, .int 0]))]) [1] (by decide) rfl
    have hKc := hK.sub (tys' := []) [] rfl
    have hFc := va_free (wc := [(q118, .inr (0, [.int 0, .int 0, .int 0, .int 0, .int 0, .int 0, .int 0, .int 0, .int 0, .int 0, .int 0, .int 0]))]) hD hS hA0 [1] rfl
    refine va_callv (va_runI (As := [.int t_p, .int r22, .int r23]) (rest := [.ref q118]) ⟨hx, hb, hml, hown, hts⟩ (ctX0_init l N dC dI _ q118 0 0 0 0 0 0 0 0 0 0 0 0 t_p r22 r23 r24 hr24) (cwI 3 hts gX0_dividedBy_X0_init rfl rfl rfl (hts (.initialized RX0) (by decide +kernel)) (hts (.methodLink RX0 57 yX0_init) (by decide +kernel)) (hts (.instanceMethod yX0_init) (by decide +kernel)) rfl (by decide +kernel) ⟨Nat.le_of_ble_eq_true rfl, Nat.le_of_ble_eq_true rfl⟩) ⟨fun a U g mk q => by obtain ⟨q0, q1, qP, qK, qN, qD⟩ := q; exact ⟨q0, q1, qP, va_K.moved (u := U) (U := U.calling g mk a) (Vm.Alike.refl U.vm) qK, nw_same (u := U) (U := U.calling g mk a) rfl qN, qD⟩, fun U hU hW => ⟨rfl, by rw [hU], by rw [hU]; exact hPc, va_K.moved hW.alike hKc, nw_warm hW hN, hDc.weaken (fun _ _ _ _ => trivial)⟩⟩ rfl rfl hl.1 rfl (lv_room (Nat.le_of_ble_eq_true rfl)) dX0_dividedBy_158 ⟨Nat.le_of_ble_eq_true rfl, Nat.le_of_ble_eq_true rfl⟩) hS (fun q _ h => hFc q h) hFc (fun u t H1 locs ht hvm hw hB1 hz1 hk1 hS => ?_)
    obtain ⟨u25, u26, u27, u28, u29⟩ := u
    obtain ⟨hP1, hK1, hD1⟩ := hB1
    rw [ht] at hP1
    have hK1 := va_K.moved hvm.symm hK1
    subst hw
    try dsimp only at h
    obtain ⟨hP, hD⟩ := va_join (wr := [(h0, .inr (0, [.int t_p, .int t_a, .int t_b, .int t_from, .int t_kernelPoint, .int t_kernelOrder, .int t_points, .int t_inner, .int t_outer, .int t_makersFound, .int t_first, .int t_second]))]) (w1 := [(q118, .inr (0, [.int u25, .int u26, .int u27, .int 0, .int 0, .int 0, .int 0, .int 0, .int 0, .int 0, .int u28, .int u29]))]) hP hD [1] [0] rfl rfl (by decide) (by decide) hk1 hFc hP1 hD1
    generalize H1 = H at hP hS ⊢
    have hP := hP.sub (ws' := [(h0, .inr (0, [.int t_p, .int t_a, .int t_b, .int t_from, .int t_kernelPoint, .int t_kernelOrder, .int t_points, .int t_inner, .int t_outer, .int t_makersFound, .int t_first, .int t_second])), (q118, .inr (0, [.int u25, .int u26, .int u27, .int 0, .int 0, .int 0, .int 0, .int 0, .int 0, .int 0, .int u28, .int u29]))]) [0, 1] rfl
    have hD := hD.sub (ws' := [(h0, .inr (0, [.int t_p, .int t_a, .int t_b, .int t_from, .int t_kernelPoint, .int t_kernelOrder, .int t_points, .int t_inner, .int t_outer, .int t_makersFound, .int t_first, .int t_second])), (q118, .inr (0, [.int u25, .int u26, .int u27, .int 0, .int 0, .int 0, .int 0, .int 0, .int 0, .int 0, .int u28, .int u29]))]) [0, 1] (by decide) rfl
    refine lv_astore (lv' := [(7, .ref q118), (3, .int y5), (4, .int y6), (5, .int y7), (6, .int y8), (0, .ref h0), (1, .int a0), (2, .int a1)]) hx hb dX0_dividedBy_161 hl (by decide) rfl (fun ls hl => ?_)
    refine lv_aload hx hb dX0_dividedBy_163 (lv_at hl 0 rfl) ?_
    refine lv_iload_n hx hb dX0_dividedBy_165 rfl (lv_at hl 7 rfl) ?_
    refine va_put (D := (dC, dI)) (ci := 0) (v := .int a1) (ty := .int) (C := RX0) (T := TX0) (N := 12) hx hb hts (by decide +kernel) tyX0 tyX0_ok nmX0 hown hK hP hD hS 1 rfl rfl 3 (by decide) (hts (.fieldLink RX0 96 "PointRings$Curve" "from" "I") (by decide +kernel)) (fun _ h9 => h9) rfl (by decide +kernel) rfl rfl (Nat.le_of_ble_eq_true rfl) dX0_dividedBy_166 (fun H locs hP hD hS => ?_)
    have hP : va_P (dC, dI) vwCl [(h0, .inr (0, [.int t_p, .int t_a, .int t_b, .int t_from, .int t_kernelPoint, .int t_kernelOrder, .int t_points, .int t_inner, .int t_outer, .int t_makersFound, .int t_first, .int t_second])), (q118, .inr (0, [.int u25, .int u26, .int u27, .int a1, .int 0, .int 0, .int 0, .int 0, .int 0, .int 0, .int u28, .int u29]))] H := hP
    have hD : va_D A [(h0, .inr (0, [.int t_p, .int t_a, .int t_b, .int t_from, .int t_kernelPoint, .int t_kernelOrder, .int t_points, .int t_inner, .int t_outer, .int t_makersFound, .int t_first, .int t_second])), (q118, .inr (0, [.int u25, .int u26, .int u27, .int a1, .int 0, .int 0, .int 0, .int 0, .int 0, .int 0, .int u28, .int u29]))] := hD
    refine lv_aload hx hb dX0_dividedBy_169 (lv_at hl 0 rfl) ?_
    refine lv_iload_n hx hb dX0_dividedBy_171 rfl (lv_at hl 6 rfl) ?_
    refine va_put (D := (dC, dI)) (ci := 0) (v := .int a0) (ty := .int) (C := RX0) (T := TX0) (N := 12) hx hb hts (by decide +kernel) tyX0 tyX0_ok nmX0 hown hK hP hD hS 1 rfl rfl 4 (by decide) (hts (.fieldLink RX0 99 "PointRings$Curve" "kernelPoint" "I") (by decide +kernel)) (fun _ h9 => h9) rfl (by decide +kernel) rfl rfl (Nat.le_of_ble_eq_true rfl) dX0_dividedBy_172 (fun H locs hP hD hS => ?_)
    have hP : va_P (dC, dI) vwCl [(h0, .inr (0, [.int t_p, .int t_a, .int t_b, .int t_from, .int t_kernelPoint, .int t_kernelOrder, .int t_points, .int t_inner, .int t_outer, .int t_makersFound, .int t_first, .int t_second])), (q118, .inr (0, [.int u25, .int u26, .int u27, .int a1, .int a0, .int 0, .int 0, .int 0, .int 0, .int 0, .int u28, .int u29]))] H := hP
    have hD : va_D A [(h0, .inr (0, [.int t_p, .int t_a, .int t_b, .int t_from, .int t_kernelPoint, .int t_kernelOrder, .int t_points, .int t_inner, .int t_outer, .int t_makersFound, .int t_first, .int t_second])), (q118, .inr (0, [.int u25, .int u26, .int u27, .int a1, .int a0, .int 0, .int 0, .int 0, .int 0, .int 0, .int u28, .int u29]))] := hD
    refine lv_aload hx hb dX0_dividedBy_175 (lv_at hl 0 rfl) ?_
    refine lv_iload hx hb dX0_dividedBy_177 (lv_at hl 3 rfl) ?_
    refine va_put (D := (dC, dI)) (ci := 0) (v := .int y7) (ty := .int) (C := RX0) (T := TX0) (N := 12) hx hb hts (by decide +kernel) tyX0 tyX0_ok nmX0 hown hK hP hD hS 1 rfl rfl 5 (by decide) (hts (.fieldLink RX0 102 "PointRings$Curve" "kernelOrder" "I") (by decide +kernel)) (fun _ h9 => h9) rfl (by decide +kernel) rfl rfl (Nat.le_of_ble_eq_true rfl) dX0_dividedBy_179 (fun H locs hP hD hS => ?_)
    have hP : va_P (dC, dI) vwCl [(h0, .inr (0, [.int t_p, .int t_a, .int t_b, .int t_from, .int t_kernelPoint, .int t_kernelOrder, .int t_points, .int t_inner, .int t_outer, .int t_makersFound, .int t_first, .int t_second])), (q118, .inr (0, [.int u25, .int u26, .int u27, .int a1, .int a0, .int y7, .int 0, .int 0, .int 0, .int 0, .int u28, .int u29]))] H := hP
    have hD : va_D A [(h0, .inr (0, [.int t_p, .int t_a, .int t_b, .int t_from, .int t_kernelPoint, .int t_kernelOrder, .int t_points, .int t_inner, .int t_outer, .int t_makersFound, .int t_first, .int t_second])), (q118, .inr (0, [.int u25, .int u26, .int u27, .int a1, .int a0, .int y7, .int 0, .int 0, .int 0, .int 0, .int u28, .int u29]))] := hD
    refine lv_aload hx hb dX0_dividedBy_182 (lv_at hl 0 rfl) ?_
    exact absurd (Option.some.inj h) (fun hh => nomatch hh)
  · replace h := (if_neg c21).symm.trans h
    refine lv_null hx hb dX0_dividedBy_116 ?_
    have hv : () = rr := Sum.inl.inj (Option.some.inj h)
    have hP9 := hP.sub (ws' := [(h0, .inr (0, [.int t_p, .int t_a, .int t_b, .int t_from, .int t_kernelPoint, .int t_kernelOrder, .int t_points, .int t_inner, .int t_outer, .int t_makersFound, .int t_first, .int t_second]))]) [0] rfl
    have hD9 := hD.sub (ws' := [(h0, .inr (0, [.int t_p, .int t_a, .int t_b, .int t_from, .int t_kernelPoint, .int t_kernelOrder, .int t_points, .int t_inner, .int t_outer, .int t_makersFound, .int t_first, .int t_second]))]) [0] (by decide) rfl
    have hK9 := hK.sub (tys' := []) [] rfl
    refine W.widen (k := 1) (n := 12) (by decide +kernel) (by decide +kernel) ?_
    exact W.aret (v := .null) hx hb hr (Or.inl ⟨_, rfl⟩) (Or.inl rfl) (fun t ht hW => ⟨⟨none, (), rfl, rfl, by rw [ht]; exact hP9, va_K.moved hW.alike hK9, hD9⟩, hS.F ht⟩) hS.2.2 dX0_dividedBy_117
abbrev rmX0_dividedBy_r : Room := { frames := 2, cells := 1, slots := 12, locals := 60 }
set_option maxHeartbeats 4000000 in
set_option maxRecDepth 100000 in
theorem ctX0_dividedBy_r (l : Launch) (N : Nat) (dC : Nat → ClassId) (dI : Nat → Nat → Nat) (sz : Nat) (h0 : Nat) (t_p : Int32) (t_a : Int32) (t_b : Int32) (t_from : Int32) (t_kernelPoint : Int32) (t_kernelOrder : Int32) (t_points : Int32) (t_inner : Int32) (t_outer : Int32) (t_makersFound : Int32) (t_first : Int32) (t_second : Int32) (a0 : Int32) (a1 : Int32) (rr : Int32 × Int32 × Int32 × Int32 × Int32 × Int32 × Int32 × Int32 × Int32 × Int32 × Int32 × Int32) (h : mX0_dividedBy N t_p t_a t_b a0 a1 = some (.inr rr)) : Met l yX0_dividedBy wsX0_dividedBy rmX0_dividedBy_r (va_Pc [.ref h0, .int a0, .int a1] (fun U => U.heap.size = sz ∧ va_P (dC, dI) vwCl [(h0, .inr (0, [.int t_p, .int t_a, .int t_b, .int t_from, .int t_kernelPoint, .int t_kernelOrder, .int t_points, .int t_inner, .int t_outer, .int t_makersFound, .int t_first, .int t_second]))] U.heap ∧ va_K (dC, dI) vwCl [] U ∧ nw_all U ∧ va_D (fun _ => True) [(h0, .inr (0, [.int t_p, .int t_a, .int t_b, .int t_from, .int t_kernelPoint, .int t_kernelOrder, .int t_points, .int t_inner, .int t_outer, .int t_makersFound, .int t_first, .int t_second]))])) (va_Qr (fun (u : Int32 × Int32 × Int32 × Int32 × Int32 × Int32 × Int32 × Int32 × Int32 × Int32 × Int32 × Int32) => u = rr) (fun (u : Int32 × Int32 × Int32 × Int32 × Int32 × Int32 × Int32 × Int32 × Int32 × Int32 × Int32 × Int32) (a : Nat) t => match u with | (u0, u1, u2, u3, u4, u5, u6, u7, u8, u9, u10, u11) => va_P (dC, dI) vwCl [(h0, .inr (0, [.int t_p, .int t_a, .int t_b, .int t_from, .int t_kernelPoint, .int t_kernelOrder, .int t_points, .int t_inner, .int t_outer, .int t_makersFound, .int t_first, .int t_second])), (a, .inr (0, [.int u0, .int u1, .int u2, .int u3, .int u4, .int u5, .int u6, .int u7, .int u8, .int u9, .int u10, .int u11]))] t.heap ∧ va_K (dC, dI) vwCl [] t ∧ va_D (va_A [(h0, .inr (0, [.int t_p, .int t_a, .int t_b, .int t_from, .int t_kernelPoint, .int t_kernelOrder, .int t_points, .int t_inner, .int t_outer, .int t_makersFound, .int t_first, .int t_second]))] sz) [(h0, .inr (0, [.int t_p, .int t_a, .int t_b, .int t_from, .int t_kernelPoint, .int t_kernelOrder, .int t_points, .int t_inner, .int t_outer, .int t_makersFound, .int t_first, .int t_second])), (a, .inr (0, [.int u0, .int u1, .int u2, .int u3, .int u4, .int u5, .int u6, .int u7, .int u8, .int u9, .int u10, .int u11]))]) (va_A [(h0, .inr (0, [.int t_p, .int t_a, .int t_b, .int t_from, .int t_kernelPoint, .int t_kernelOrder, .int t_points, .int t_inner, .int t_outer, .int t_makersFound, .int t_first, .int t_second]))] sz)) 1 12 (va_A [(h0, .inr (0, [.int t_p, .int t_a, .int t_b, .int t_from, .int t_kernelPoint, .int t_kernelOrder, .int t_points, .int t_inner, .int t_outer, .int t_makersFound, .int t_first, .int t_second]))] sz) := by
  refine Met.ofW (cc := cX0_dividedBy) (maxL := 9) (ret := (some (.object "PointRings$Curve"))) (by decide) rfl ?_
  intro p e s m args below meth c s₁ B hml hv
  obtain ⟨rfl, hsz, hP, hK, hN, hD0⟩ := hv
  have hx := B.exec
  have hb := B.bytes
  have hr := B.returns
  have hts := atoms_spec (ws := wsX0_dividedBy) B.pre
  have hown : s.vm.findClass RX0 = some m.cls := findClass_of_methodNamed B.named
  have hlocks := B.notSynchronized
  subst hsz
  have hD := hD0.self (sz := s.heap.size)
  generalize hAe : va_A [(h0, .inr (0, [.int t_p, .int t_a, .int t_b, .int t_from, .int t_kernelPoint, .int t_kernelOrder, .int t_points, .int t_inner, .int t_outer, .int t_makersFound, .int t_first, .int t_second]))] s.heap.size = A at hD ⊢
  have hA0 : ∀ q : Nat, s.heap.size ≤ q → A q := fun q h => by rw [← hAe]; exact Or.inr h
  have hS : va_S A s.heap s.heap [] := va_S.rf
  have hP : va_P (dC, dI) vwCl [(h0, .inr (0, [.int t_p, .int t_a, .int t_b, .int t_from, .int t_kernelPoint, .int t_kernelOrder, .int t_points, .int t_inner, .int t_outer, .int t_makersFound, .int t_first, .int t_second]))] s.heap := hP
  have hl := lv_entry ([.ref h0, .int a0, .int a1]) (n := 9) (Nat.le_of_ble_eq_true rfl)
  rw [lg_entry_eq]
  generalize (lg_sl ([.ref h0, .int a0, .int a1]) ++ List.replicate (9 - (lg_sl ([.ref h0, .int a0, .int a1])).length) Slot.unset).toArray = ls at hl ⊢
  have hl : lv_has ls 9 [(0, .ref h0), (1, .int a0), (2, .int a1)] := hl
  dsimp only [mX0_dividedBy] at h
  refine lv_iconst (v := 0) hx hb dX0_dividedBy_0 (by decide) ?_
  refine lv_istore_n (lv' := [(3, .int 0), (0, .ref h0), (1, .int a0), (2, .int a1)]) hx hb dX0_dividedBy_1 rfl hl (by decide) rfl (fun ls hl => ?_)
  refine lv_iconst (v := 0) hx hb dX0_dividedBy_2 (by decide) ?_
  refine lv_istore (lv' := [(4, .int 0), (3, .int 0), (0, .ref h0), (1, .int a0), (2, .int a1)]) hx hb dX0_dividedBy_3 hl (by decide) rfl (fun ls hl => ?_)
  refine lv_iconst (v := 1) hx hb dX0_dividedBy_5 (by decide) ?_
  refine lv_istore (lv' := [(5, .int 1), (4, .int 0), (3, .int 0), (0, .ref h0), (1, .int a0), (2, .int a1)]) hx hb dX0_dividedBy_6 hl (by decide) rfl (fun ls hl => ?_)
  refine lv_iload_n hx hb dX0_dividedBy_8 rfl (lv_at hl 4 rfl) ?_
  refine lv_istore (lv' := [(6, .int a0), (5, .int 1), (4, .int 0), (3, .int 0), (0, .ref h0), (1, .int a0), (2, .int a1)]) hx hb dX0_dividedBy_9 hl (by decide) rfl (fun ls hl => ?_)
  have L11 : ∀ (n : Nat) (x1 : Int32) (x2 : Int32) (x3 : Int32) (x4 : Int32) (o : Int32 × Int32 × Int32 × Int32), mi_run (mX0_dividedBy_b11 N t_p t_a t_b a0) n (x1, x2, x3, x4) = some o → (∀ (y5 : Int32) (y6 : Int32) (y7 : Int32) (y8 : Int32), o = (y5, y6, y7, y8) → ∀ (H : Heap) (locs : List Loc) (ls : Array Slot), va_P (dC, dI) vwCl [(h0, .inr (0, [.int t_p, .int t_a, .int t_b, .int t_from, .int t_kernelPoint, .int t_kernelOrder, .int t_points, .int t_inner, .int t_outer, .int t_makersFound, .int t_first, .int t_second]))] H → va_D A [(h0, .inr (0, [.int t_p, .int t_a, .int t_b, .int t_from, .int t_kernelPoint, .int t_kernelOrder, .int t_points, .int t_inner, .int t_outer, .int t_makersFound, .int t_first, .int t_second]))] → va_S A s.heap H locs → lv_has ls 9 [(3, .int y5), (4, .int y6), (5, .int y7), (6, .int y8), (0, .ref h0), (1, .int a0), (2, .int a1)] → W p l e (headSpec wsX0_dividedBy rmX0_dividedBy_r).room s m (([.ref h0, .int a0, .int a1] : List Value).toArray) below meth c H locs 0 0 (MQ below (va_Qr (fun (u : Int32 × Int32 × Int32 × Int32 × Int32 × Int32 × Int32 × Int32 × Int32 × Int32 × Int32 × Int32) => u = rr) (fun (u : Int32 × Int32 × Int32 × Int32 × Int32 × Int32 × Int32 × Int32 × Int32 × Int32 × Int32 × Int32) (a : Nat) t => match u with | (u0, u1, u2, u3, u4, u5, u6, u7, u8, u9, u10, u11) => va_P (dC, dI) vwCl [(h0, .inr (0, [.int t_p, .int t_a, .int t_b, .int t_from, .int t_kernelPoint, .int t_kernelOrder, .int t_points, .int t_inner, .int t_outer, .int t_makersFound, .int t_first, .int t_second])), (a, .inr (0, [.int u0, .int u1, .int u2, .int u3, .int u4, .int u5, .int u6, .int u7, .int u8, .int u9, .int u10, .int u11]))] t.heap ∧ va_K (dC, dI) vwCl [] t ∧ va_D (A) [(h0, .inr (0, [.int t_p, .int t_a, .int t_b, .int t_from, .int t_kernelPoint, .int t_kernelOrder, .int t_points, .int t_inner, .int t_outer, .int t_makersFound, .int t_first, .int t_second])), (a, .inr (0, [.int u0, .int u1, .int u2, .int u3, .int u4, .int u5, .int u6, .int u7, .int u8, .int u9, .int u10, .int u11]))]) (A)) (([.ref h0, .int a0, .int a1] : List Value).toArray) s 1 12 A) (F0 m 110 ls [])) → ∀ (H : Heap) (locs : List Loc) (ls : Array Slot), va_P (dC, dI) vwCl [(h0, .inr (0, [.int t_p, .int t_a, .int t_b, .int t_from, .int t_kernelPoint, .int t_kernelOrder, .int t_points, .int t_inner, .int t_outer, .int t_makersFound, .int t_first, .int t_second]))] H → va_D A [(h0, .inr (0, [.int t_p, .int t_a, .int t_b, .int t_from, .int t_kernelPoint, .int t_kernelOrder, .int t_points, .int t_inner, .int t_outer, .int t_makersFound, .int t_first, .int t_second]))] → va_S A s.heap H locs → lv_has ls 9 [(3, .int x1), (4, .int x2), (5, .int x3), (6, .int x4), (0, .ref h0), (1, .int a0), (2, .int a1)] → W p l e (headSpec wsX0_dividedBy rmX0_dividedBy_r).room s m (([.ref h0, .int a0, .int a1] : List Value).toArray) below meth c H locs 0 0 (MQ below (va_Qr (fun (u : Int32 × Int32 × Int32 × Int32 × Int32 × Int32 × Int32 × Int32 × Int32 × Int32 × Int32 × Int32) => u = rr) (fun (u : Int32 × Int32 × Int32 × Int32 × Int32 × Int32 × Int32 × Int32 × Int32 × Int32 × Int32 × Int32) (a : Nat) t => match u with | (u0, u1, u2, u3, u4, u5, u6, u7, u8, u9, u10, u11) => va_P (dC, dI) vwCl [(h0, .inr (0, [.int t_p, .int t_a, .int t_b, .int t_from, .int t_kernelPoint, .int t_kernelOrder, .int t_points, .int t_inner, .int t_outer, .int t_makersFound, .int t_first, .int t_second])), (a, .inr (0, [.int u0, .int u1, .int u2, .int u3, .int u4, .int u5, .int u6, .int u7, .int u8, .int u9, .int u10, .int u11]))] t.heap ∧ va_K (dC, dI) vwCl [] t ∧ va_D (A) [(h0, .inr (0, [.int t_p, .int t_a, .int t_b, .int t_from, .int t_kernelPoint, .int t_kernelOrder, .int t_points, .int t_inner, .int t_outer, .int t_makersFound, .int t_first, .int t_second])), (a, .inr (0, [.int u0, .int u1, .int u2, .int u3, .int u4, .int u5, .int u6, .int u7, .int u8, .int u9, .int u10, .int u11]))]) (A)) (([.ref h0, .int a0, .int a1] : List Value).toArray) s 1 12 A) (F0 m 11 ls []) := by
    intro n
    induction n with
    | zero => intro x1 x2 x3 x4 o h; exact absurd h (mi_run_0 _ _ _)
    | succ n ih =>
      intro x1 x2 x3 x4 o h hkE H locs ls hP hD hS hl
      obtain ⟨w, h, hA, hB⟩ := mi_run_s h
      dsimp only [mX0_dividedBy_b11] at h
      refine lv_iload hx hb dX0_dividedBy_11 (lv_at hl 2 rfl) ?_
      refine lv_sipush (v := 400) hx hb dX0_dividedBy_13 (by decide) ?_
      refine lv_icmp_ge (tgt := 110) hx hb dX0_dividedBy_16 (by decide) (fun c9 => ?_) (fun c9 => ?_)
      · replace h := (if_pos c9).symm.trans h
        exact hkE _ _ _ _ (hB _ (Option.some.inj h).symm) _ _ ls hP hD hS (lv_sub hl [0, 1, 2, 3, 4, 5, 6] rfl)
      · replace h := (if_neg c9).symm.trans h
        refine lv_iload hx hb dX0_dividedBy_19 (lv_at hl 3 rfl) ?_
        refine lv_iconst (v := (-1)) hx hb dX0_dividedBy_21 (by decide) ?_
        refine lv_icmp_eq (tgt := 110) hx hb dX0_dividedBy_22 (by decide) (fun c10 => ?_) (fun c10 => ?_)
        · replace h := (if_pos c10).symm.trans h
          exact hkE _ _ _ _ (hB _ (Option.some.inj h).symm) _ _ ls hP hD hS (lv_sub hl [0, 1, 2, 3, 4, 5, 6] rfl)
        · replace h := (if_neg c10).symm.trans h
          refine lv_iload hx hb dX0_dividedBy_25 (lv_at hl 3 rfl) ?_
          obtain ⟨r11, hr11, h⟩ := Option.bind_eq_some_iff.mp h
          refine vp_callSi (mi_cr (va_runSN (As := [.int x4]) (rest := []) ⟨hx, hb, hml, hown, hts⟩ (ctX5_xOf l N  x4 r11 hr11) ⟨va_cnB 1 hts gX0_dividedBy_X5_xOf_n27 rfl rfl rfl (nw_X0_27 hN) (hts (.initialized RX5) (by decide +kernel)) (by decide +kernel) ⟨Nat.le_of_ble_eq_true rfl, Nat.le_of_ble_eq_true rfl⟩, hts (.static yX5_xOf) (by decide +kernel), trivial⟩ preEq rfl rfl hl.1 rfl (lv_room (Nat.le_of_ble_eq_true rfl)) dX0_dividedBy_27 ⟨Nat.le_of_ble_eq_true rfl, Nat.le_of_ble_eq_true rfl⟩)) (fun q9 eq9 => ?_)
          subst q9
          refine lv_istore (lv' := [(7, .int r11), (3, .int x1), (4, .int x2), (5, .int x3), (6, .int x4), (0, .ref h0), (1, .int a0), (2, .int a1)]) hx hb dX0_dividedBy_30 hl (by decide) rfl (fun ls hl => ?_)
          refine lv_iload hx hb dX0_dividedBy_32 (lv_at hl 0 rfl) ?_
          refine lv_iload hx hb dX0_dividedBy_34 (lv_at hl 0 rfl) ?_
          refine lv_imul hx hb dX0_dividedBy_36 ?_
          refine lv_aload_n hx hb dX0_dividedBy_37 rfl (lv_at hl 5 rfl) ?_
          refine va_get (D := (dC, dI)) (ci := 0) (v := .int t_p) (C := RX0) (T := TX0) (N := 12) hx hb hts (by decide +kernel) hown hK hP 0 rfl rfl 0 (by decide) (hts (.fieldLink RX0 9 "PointRings$Curve" "p" "I") (by decide +kernel)) (fun _ h9 => h9) rfl dX0_dividedBy_38 ?_
          have hn12 : ¬ t_p = 0 := fun hz => absurd ((if_pos hz).symm.trans h) (fun hh => nomatch hh)
          replace h := (if_neg hn12).symm.trans h
          refine lv_irem hx hb dX0_dividedBy_41 hn12 ?_
          refine lv_topi (fun v13 ev13 => ?_)
          replace h := mi_use ev13 h
          refine lv_istore (lv' := [(8, .int v13), (7, .int r11), (3, .int x1), (4, .int x2), (5, .int x3), (6, .int x4), (0, .ref h0), (1, .int a0), (2, .int a1)]) hx hb dX0_dividedBy_42 hl (by decide) rfl (fun ls hl => ?_)
          refine lv_iload_n hx hb dX0_dividedBy_44 rfl (lv_at hl 2 rfl) ?_
          refine lv_iconst (v := 3) hx hb dX0_dividedBy_45 (by decide) ?_
          refine lv_iload hx hb dX0_dividedBy_46 (lv_at hl 0 rfl) ?_
          refine lv_imul hx hb dX0_dividedBy_48 ?_
          refine lv_iadd hx hb dX0_dividedBy_49 ?_
          refine lv_aload_n hx hb dX0_dividedBy_50 rfl (lv_at hl 6 rfl) ?_
          refine va_get (D := (dC, dI)) (ci := 0) (v := .int t_a) (C := RX0) (T := TX0) (N := 12) hx hb hts (by decide +kernel) hown hK hP 0 rfl rfl 1 (by decide) (hts (.fieldLink RX0 15 "PointRings$Curve" "a" "I") (by decide +kernel)) (fun _ h9 => h9) rfl dX0_dividedBy_51 ?_
          refine lv_iadd hx hb dX0_dividedBy_54 ?_
          refine lv_aload_n hx hb dX0_dividedBy_55 rfl (lv_at hl 6 rfl) ?_
          refine va_get (D := (dC, dI)) (ci := 0) (v := .int t_p) (C := RX0) (T := TX0) (N := 12) hx hb hts (by decide +kernel) hown hK hP 0 rfl rfl 0 (by decide) (hts (.fieldLink RX0 9 "PointRings$Curve" "p" "I") (by decide +kernel)) (fun _ h9 => h9) rfl dX0_dividedBy_56 ?_
          have hn14 : ¬ t_p = 0 := fun hz => absurd ((if_pos hz).symm.trans h) (fun hh => nomatch hh)
          replace h := (if_neg hn14).symm.trans h
          refine lv_irem hx hb dX0_dividedBy_59 hn14 ?_
          refine lv_topi (fun v15 ev15 => ?_)
          replace h := mi_use ev15 h
          refine lv_istore_n (lv' := [(3, .int v15), (8, .int v13), (7, .int r11), (4, .int x2), (5, .int x3), (6, .int x4), (0, .ref h0), (1, .int a0), (2, .int a1)]) hx hb dX0_dividedBy_60 rfl hl (by decide) rfl (fun ls hl => ?_)
          refine lv_iload hx hb dX0_dividedBy_61 (lv_at hl 3 rfl) ?_
          refine lv_iconst (v := 5) hx hb dX0_dividedBy_63 (by decide) ?_
          refine lv_iload hx hb dX0_dividedBy_64 (lv_at hl 1 rfl) ?_
          refine lv_imul hx hb dX0_dividedBy_66 ?_
          refine lv_iload hx hb dX0_dividedBy_67 (lv_at hl 2 rfl) ?_
          refine lv_imul hx hb dX0_dividedBy_69 ?_
          refine lv_iadd hx hb dX0_dividedBy_70 ?_
          refine lv_iconst (v := 3) hx hb dX0_dividedBy_71 (by decide) ?_
          refine lv_aload_n hx hb dX0_dividedBy_72 rfl (lv_at hl 6 rfl) ?_
          refine va_get (D := (dC, dI)) (ci := 0) (v := .int t_a) (C := RX0) (T := TX0) (N := 12) hx hb hts (by decide +kernel) hown hK hP 0 rfl rfl 1 (by decide) (hts (.fieldLink RX0 15 "PointRings$Curve" "a" "I") (by decide +kernel)) (fun _ h9 => h9) rfl dX0_dividedBy_73 ?_
          refine lv_imul hx hb dX0_dividedBy_76 ?_
          refine lv_iload hx hb dX0_dividedBy_77 (lv_at hl 2 rfl) ?_
          refine lv_imul hx hb dX0_dividedBy_79 ?_
          refine lv_iadd hx hb dX0_dividedBy_80 ?_
          refine lv_iconst (v := 2) hx hb dX0_dividedBy_81 (by decide) ?_
          refine lv_aload_n hx hb dX0_dividedBy_82 rfl (lv_at hl 6 rfl) ?_
          refine va_get (D := (dC, dI)) (ci := 0) (v := .int t_b) (C := RX0) (T := TX0) (N := 12) hx hb hts (by decide +kernel) hown hK hP 0 rfl rfl 2 (by decide) (hts (.fieldLink RX0 18 "PointRings$Curve" "b" "I") (by decide +kernel)) (fun _ h9 => h9) rfl dX0_dividedBy_83 ?_
          refine lv_imul hx hb dX0_dividedBy_86 ?_
          refine lv_iadd hx hb dX0_dividedBy_87 ?_
          refine lv_aload_n hx hb dX0_dividedBy_88 rfl (lv_at hl 6 rfl) ?_
          refine va_get (D := (dC, dI)) (ci := 0) (v := .int t_p) (C := RX0) (T := TX0) (N := 12) hx hb hts (by decide +kernel) hown hK hP 0 rfl rfl 0 (by decide) (hts (.fieldLink RX0 9 "PointRings$Curve" "p" "I") (by decide +kernel)) (fun _ h9 => h9) rfl dX0_dividedBy_89 ?_
          have hn16 : ¬ t_p = 0 := fun hz => absurd ((if_pos hz).symm.trans h) (fun hh => nomatch hh)
          replace h := (if_neg hn16).symm.trans h
          refine lv_irem hx hb dX0_dividedBy_92 hn16 ?_
          refine lv_topi (fun v17 ev17 => ?_)
          replace h := mi_use ev17 h
          refine lv_istore (lv' := [(4, .int v17), (3, .int v15), (8, .int v13), (7, .int r11), (5, .int x3), (6, .int x4), (0, .ref h0), (1, .int a0), (2, .int a1)]) hx hb dX0_dividedBy_93 hl (by decide) rfl (fun ls hl => ?_)
          refine lv_aload_n hx hb dX0_dividedBy_95 rfl (lv_at hl 6 rfl) ?_
          refine lv_iload hx hb dX0_dividedBy_96 (lv_at hl 5 rfl) ?_
          refine lv_iload_n hx hb dX0_dividedBy_98 rfl (lv_at hl 7 rfl) ?_
          obtain ⟨r18, hr18, h⟩ := Option.bind_eq_some_iff.mp h
          have hPc := hP.sub (ws' := [(h0, .inr (0, [.int t_p, .int t_a, .int t_b, .int t_from, .int t_kernelPoint, .int t_kernelOrder, .int t_points, .int t_inner, .int t_outer, .int t_makersFound, .int t_first, .int t_second]))]) [0] rfl
          have hKc := hK.sub (tys' := []) [] rfl
          refine vp_callSi (W.runV (As := [.int x4, .int a0]) (rest := []) ⟨hx, hb, hml, hown, hts⟩ (ctX0_sum l N dC dI  h0 t_p t_a t_b t_from t_kernelPoint t_kernelOrder t_points t_inner t_outer t_makersFound t_first t_second x4 a0 r18 hr18) (cwV 2 hts gX0_dividedBy_X0_sum rfl rfl rfl (by decide +kernel) ⟨Nat.le_of_ble_eq_true rfl, Nat.le_of_ble_eq_true rfl⟩) ⟨fun a U g mk q => by obtain ⟨q0, qP, qK, qN⟩ := q; exact ⟨q0, qP, va_K.moved (u := U) (U := U.calling g mk a) (Vm.Alike.refl U.vm) qK, nw_same (u := U) (U := U.calling g mk a) rfl qN⟩, va_recv hKc hPc (ci := 0) (q0 := 0) rfl rfl, fun U hU hW => ⟨rfl, by rw [hU]; exact hPc, va_K.moved hW.alike hKc, nw_warm hW hN⟩⟩ rfl rfl hl.1 rfl (lv_room (Nat.le_of_ble_eq_true rfl)) dX0_dividedBy_99 ⟨Nat.le_of_ble_eq_true rfl, Nat.le_of_ble_eq_true rfl⟩) (fun q9 eq9 => ?_)
          subst q9
          refine lv_istore (lv' := [(6, .int r18), (4, .int v17), (3, .int v15), (8, .int v13), (7, .int r11), (5, .int x3), (0, .ref h0), (1, .int a0), (2, .int a1)]) hx hb dX0_dividedBy_102 hl (by decide) rfl (fun ls hl => ?_)
          obtain ⟨v19, ev19⟩ : ∃ z : Int32, z = x3 + 1 := ⟨_, rfl⟩
          refine lv_iinc (v := v19) (lv' := [(5, .int v19), (6, .int r18), (4, .int v17), (3, .int v15), (8, .int v13), (7, .int r11), (0, .ref h0), (1, .int a0), (2, .int a1)]) hx hb dX0_dividedBy_104 hl (k := 5) rfl (by rw [ev19]; rfl) (by decide) rfl (fun ls hl => ?_)
          replace h := mi_use ev19 h
          refine lv_goto (tgt := 11) hx hb dX0_dividedBy_107 (by decide) ?_
          exact ih _ _ _ _ _ (hA _ (Option.some.inj h).symm) hkE _ _ ls hP hD hS (lv_sub hl [3, 2, 0, 1, 6, 7, 8] rfl)
  obtain ⟨o20, ho20, h⟩ := Option.bind_eq_some_iff.mp h
  refine L11 N _ _ _ _ o20 ho20 ?_ _ _ ls hP hD hS (lv_sub hl [3, 2, 1, 0, 4, 5, 6] rfl)
  intro y5 y6 y7 y8 eo H locs ls hP hD hS hl
  subst eo
  try dsimp only at h
  refine lv_iload hx hb dX0_dividedBy_110 (lv_at hl 3 rfl) ?_
  refine lv_iconst (v := (-1)) hx hb dX0_dividedBy_112 (by decide) ?_
  refine lv_icmp_eq (tgt := 118) hx hb dX0_dividedBy_113 (by decide) (fun c21 => ?_) (fun c21 => ?_)
  · replace h := (if_pos c21).symm.trans h
    refine va_new (ci := 0) (fs := [.int 0, .int 0, .int 0, .int 0, .int 0, .int 0, .int 0, .int 0, .int 0, .int 0, .int 0, .int 0]) (C := RX0) (T := TX0) (N := 12) hx hb hts (by decide +kernel) tyX0 tyX0_ok hown (hts (.classLink RX0 10 RX0) (by decide +kernel)) (hts (.instantiable RX0 12) (by decide +kernel)) (hts (.initialized RX0) (by decide +kernel)) hK hP hD hS hA0 rfl (fun j hj => by rcases (show j = 0 ∨ j = 1 ∨ j = 2 ∨ j = 3 ∨ j = 4 ∨ j = 5 ∨ j = 6 ∨ j = 7 ∨ j = 8 ∨ j = 9 ∨ j = 10 ∨ j = 11 by omega) with rfl | rfl | rfl | rfl | rfl | rfl | rfl | rfl | rfl | rfl | rfl | rfl <;> rfl) (by decide +kernel) (by decide +kernel) dX0_dividedBy_118 (fun q118 H hP hD hS => ?_)
    have hP : va_P (dC, dI) vwCl [(h0, .inr (0, [.int t_p, .int t_a, .int t_b, .int t_from, .int t_kernelPoint, .int t_kernelOrder, .int t_points, .int t_inner, .int t_outer, .int t_makersFound, .int t_first, .int t_second])), (q118, .inr (0, [.int 0, .int 0, .int 0, .int 0, .int 0, .int 0, .int 0, .int 0, .int 0, .int 0, .int 0, .int 0]))] H := hP
    have hD : va_D A [(h0, .inr (0, [.int t_p, .int t_a, .int t_b, .int t_from, .int t_kernelPoint, .int t_kernelOrder, .int t_points, .int t_inner, .int t_outer, .int t_makersFound, .int t_first, .int t_second])), (q118, .inr (0, [.int 0, .int 0, .int 0, .int 0, .int 0, .int 0, .int 0, .int 0, .int 0, .int 0, .int 0, .int 0]))] := hD
    refine lv_dup hx hb dX0_dividedBy_121 rfl ?_
    refine lv_aload_n hx hb dX0_dividedBy_122 rfl (lv_at hl 4 rfl) ?_
    refine va_get (D := (dC, dI)) (ci := 0) (v := .int t_p) (C := RX0) (T := TX0) (N := 12) hx hb hts (by decide +kernel) hown hK hP 0 rfl rfl 0 (by decide) (hts (.fieldLink RX0 9 "PointRings$Curve" "p" "I") (by decide +kernel)) (fun _ h9 => h9) rfl dX0_dividedBy_123 ?_
    refine lv_aload_n hx hb dX0_dividedBy_126 rfl (lv_at hl 4 rfl) ?_
    refine va_get (D := (dC, dI)) (ci := 0) (v := .int t_a) (C := RX0) (T := TX0) (N := 12) hx hb hts (by decide +kernel) hown hK hP 0 rfl rfl 1 (by decide) (hts (.fieldLink RX0 15 "PointRings$Curve" "a" "I") (by decide +kernel)) (fun _ h9 => h9) rfl dX0_dividedBy_127 ?_
    refine lv_iconst (v := 5) hx hb dX0_dividedBy_130 (by decide) ?_
    refine lv_iload_n hx hb dX0_dividedBy_131 rfl (lv_at hl 0 rfl) ?_
    refine lv_imul hx hb dX0_dividedBy_132 ?_
    refine lv_isub hx hb dX0_dividedBy_133 ?_
    refine lv_aload_n hx hb dX0_dividedBy_134 rfl (lv_at hl 4 rfl) ?_
    refine va_get (D := (dC, dI)) (ci := 0) (v := .int t_p) (C := RX0) (T := TX0) (N := 12) hx hb hts (by decide +kernel) hown hK hP 0 rfl rfl 0 (by decide) (hts (.fieldLink RX0 9 "PointRings$Curve" "p" "I") (by decide +kernel)) (fun _ h9 => h9) rfl dX0_dividedBy_135 ?_
    obtain ⟨r22, hr22, h⟩ := Option.bind_eq_some_iff.mp h
    refine vp_callSi (W.runS (As := [.int (t_a - (5 * y5)), .int t_p]) (rest := [.int t_p, .ref q118, .ref q118]) ⟨hx, hb, hml, hown, hts⟩ (ctJ9_floorMod_7cf53 l N  (t_a - (5 * y5)) t_p r22 hr22) (va_cwS 2 hts gX0_dividedBy_J9_floorMod_7cf53 rfl rfl rfl (by decide +kernel) ⟨Nat.le_of_ble_eq_true rfl, Nat.le_of_ble_eq_true rfl⟩) preEq rfl rfl hl.1 rfl (lv_room (Nat.le_of_ble_eq_true rfl)) dX0_dividedBy_138 ⟨Nat.le_of_ble_eq_true rfl, Nat.le_of_ble_eq_true rfl⟩) (fun q9 eq9 => ?_)
    subst q9
    refine lv_aload_n hx hb dX0_dividedBy_141 rfl (lv_at hl 4 rfl) ?_
    refine va_get (D := (dC, dI)) (ci := 0) (v := .int t_b) (C := RX0) (T := TX0) (N := 12) hx hb hts (by decide +kernel) hown hK hP 0 rfl rfl 2 (by decide) (hts (.fieldLink RX0 18 "PointRings$Curve" "b" "I") (by decide +kernel)) (fun _ h9 => h9) rfl dX0_dividedBy_142 ?_
    refine lv_bipush (v := 7) hx hb dX0_dividedBy_145 (by decide) ?_
    refine lv_iload hx hb dX0_dividedBy_147 (lv_at hl 1 rfl) ?_
    refine lv_imul hx hb dX0_dividedBy_149 ?_
    refine lv_isub hx hb dX0_dividedBy_150 ?_
    refine lv_aload_n hx hb dX0_dividedBy_151 rfl (lv_at hl 4 rfl) ?_
    refine va_get (D := (dC, dI)) (ci := 0) (v := .int t_p) (C := RX0) (T := TX0) (N := 12) hx hb hts (by decide +kernel) hown hK hP 0 rfl rfl 0 (by decide) (hts (.fieldLink RX0 9 "PointRings$Curve" "p" "I") (by decide +kernel)) (fun _ h9 => h9) rfl dX0_dividedBy_152 ?_
    obtain ⟨r23, hr23, h⟩ := Option.bind_eq_some_iff.mp h
    refine vp_callSi (W.runS (As := [.int (t_b - (7 * y6)), .int t_p]) (rest := [.int r22, .int t_p, .ref q118, .ref q118]) ⟨hx, hb, hml, hown, hts⟩ (ctJ9_floorMod_7cf53 l N  (t_b - (7 * y6)) t_p r23 hr23) (va_cwS 2 hts gX0_dividedBy_J9_floorMod_7cf53 rfl rfl rfl (by decide +kernel) ⟨Nat.le_of_ble_eq_true rfl, Nat.le_of_ble_eq_true rfl⟩) preEq rfl rfl hl.1 rfl (lv_room (Nat.le_of_ble_eq_true rfl)) dX0_dividedBy_155 ⟨Nat.le_of_ble_eq_true rfl, Nat.le_of_ble_eq_true rfl⟩) (fun q9 eq9 => ?_)
    subst q9
    obtain ⟨r24, hr24, h⟩ := Option.bind_eq_some_iff.mp h
    have hPc := hP.sub (ws' := [(q118, .inr (0, [.int 0, .int 0, .int 0, .int 0, .int 0, .int 0, .int 0, .int 0, .int 0, .int 0, .int 0, .int 0]))]) [1] rfl
    have hDc := hD.sub (ws' := [(q118, .inr (0, [.int 0, .int 0, .int 0, .int 0, .int 0, .int 0, .int 0, .int 0, .int 0, .int 0, .int 0, .int 0]))]) [1] (by decide) rfl
    have hKc := hK.sub (tys' := []) [] rfl
    have hFc := va_free (wc := [(q118, .inr (0, [.int 0, .int 0, .int 0, .int 0, .int 0, .int 0, .int 0, .int 0, .int 0, .int 0, .int 0, .int 0]))]) hD hS hA0 [1] rfl
    refine va_callv (va_runI (As := [.int t_p, .int r22, .int r23]) (rest := [.ref q118]) ⟨hx, hb, hml, hown, hts⟩ (ctX0_init l N dC dI _ q118 0 0 0 0 0 0 0 0 0 0 0 0 t_p r22 r23 r24 hr24) (cwI 3 hts gX0_dividedBy_X0_init rfl rfl rfl (hts (.initialized RX0) (by decide +kernel)) (hts (.methodLink RX0 57 yX0_init) (by decide +kernel)) (hts (.instanceMethod yX0_init) (by decide +kernel)) rfl (by decide +kernel) ⟨Nat.le_of_ble_eq_true rfl, Nat.le_of_ble_eq_true rfl⟩) ⟨fun a U g mk q => by obtain ⟨q0, q1, qP, qK, qN, qD⟩ := q; exact ⟨q0, q1, qP, va_K.moved (u := U) (U := U.calling g mk a) (Vm.Alike.refl U.vm) qK, nw_same (u := U) (U := U.calling g mk a) rfl qN, qD⟩, fun U hU hW => ⟨rfl, by rw [hU], by rw [hU]; exact hPc, va_K.moved hW.alike hKc, nw_warm hW hN, hDc.weaken (fun _ _ _ _ => trivial)⟩⟩ rfl rfl hl.1 rfl (lv_room (Nat.le_of_ble_eq_true rfl)) dX0_dividedBy_158 ⟨Nat.le_of_ble_eq_true rfl, Nat.le_of_ble_eq_true rfl⟩) hS (fun q _ h => hFc q h) hFc (fun u t H1 locs ht hvm hw hB1 hz1 hk1 hS => ?_)
    obtain ⟨u25, u26, u27, u28, u29⟩ := u
    obtain ⟨hP1, hK1, hD1⟩ := hB1
    rw [ht] at hP1
    have hK1 := va_K.moved hvm.symm hK1
    subst hw
    try dsimp only at h
    obtain ⟨hP, hD⟩ := va_join (wr := [(h0, .inr (0, [.int t_p, .int t_a, .int t_b, .int t_from, .int t_kernelPoint, .int t_kernelOrder, .int t_points, .int t_inner, .int t_outer, .int t_makersFound, .int t_first, .int t_second]))]) (w1 := [(q118, .inr (0, [.int u25, .int u26, .int u27, .int 0, .int 0, .int 0, .int 0, .int 0, .int 0, .int 0, .int u28, .int u29]))]) hP hD [1] [0] rfl rfl (by decide) (by decide) hk1 hFc hP1 hD1
    generalize H1 = H at hP hS ⊢
    have hP := hP.sub (ws' := [(h0, .inr (0, [.int t_p, .int t_a, .int t_b, .int t_from, .int t_kernelPoint, .int t_kernelOrder, .int t_points, .int t_inner, .int t_outer, .int t_makersFound, .int t_first, .int t_second])), (q118, .inr (0, [.int u25, .int u26, .int u27, .int 0, .int 0, .int 0, .int 0, .int 0, .int 0, .int 0, .int u28, .int u29]))]) [0, 1] rfl
    have hD := hD.sub (ws' := [(h0, .inr (0, [.int t_p, .int t_a, .int t_b, .int t_from, .int t_kernelPoint, .int t_kernelOrder, .int t_points, .int t_inner, .int t_outer, .int t_makersFound, .int t_first, .int t_second])), (q118, .inr (0, [.int u25, .int u26, .int u27, .int 0, .int 0, .int 0, .int 0, .int 0, .int 0, .int 0, .int u28, .int u29]))]) [0, 1] (by decide) rfl
    refine lv_astore (lv' := [(7, .ref q118), (3, .int y5), (4, .int y6), (5, .int y7), (6, .int y8), (0, .ref h0), (1, .int a0), (2, .int a1)]) hx hb dX0_dividedBy_161 hl (by decide) rfl (fun ls hl => ?_)
    refine lv_aload hx hb dX0_dividedBy_163 (lv_at hl 0 rfl) ?_
    refine lv_iload_n hx hb dX0_dividedBy_165 rfl (lv_at hl 7 rfl) ?_
    refine va_put (D := (dC, dI)) (ci := 0) (v := .int a1) (ty := .int) (C := RX0) (T := TX0) (N := 12) hx hb hts (by decide +kernel) tyX0 tyX0_ok nmX0 hown hK hP hD hS 1 rfl rfl 3 (by decide) (hts (.fieldLink RX0 96 "PointRings$Curve" "from" "I") (by decide +kernel)) (fun _ h9 => h9) rfl (by decide +kernel) rfl rfl (Nat.le_of_ble_eq_true rfl) dX0_dividedBy_166 (fun H locs hP hD hS => ?_)
    have hP : va_P (dC, dI) vwCl [(h0, .inr (0, [.int t_p, .int t_a, .int t_b, .int t_from, .int t_kernelPoint, .int t_kernelOrder, .int t_points, .int t_inner, .int t_outer, .int t_makersFound, .int t_first, .int t_second])), (q118, .inr (0, [.int u25, .int u26, .int u27, .int a1, .int 0, .int 0, .int 0, .int 0, .int 0, .int 0, .int u28, .int u29]))] H := hP
    have hD : va_D A [(h0, .inr (0, [.int t_p, .int t_a, .int t_b, .int t_from, .int t_kernelPoint, .int t_kernelOrder, .int t_points, .int t_inner, .int t_outer, .int t_makersFound, .int t_first, .int t_second])), (q118, .inr (0, [.int u25, .int u26, .int u27, .int a1, .int 0, .int 0, .int 0, .int 0, .int 0, .int 0, .int u28, .int u29]))] := hD
    refine lv_aload hx hb dX0_dividedBy_169 (lv_at hl 0 rfl) ?_
    refine lv_iload_n hx hb dX0_dividedBy_171 rfl (lv_at hl 6 rfl) ?_
    refine va_put (D := (dC, dI)) (ci := 0) (v := .int a0) (ty := .int) (C := RX0) (T := TX0) (N := 12) hx hb hts (by decide +kernel) tyX0 tyX0_ok nmX0 hown hK hP hD hS 1 rfl rfl 4 (by decide) (hts (.fieldLink RX0 99 "PointRings$Curve" "kernelPoint" "I") (by decide +kernel)) (fun _ h9 => h9) rfl (by decide +kernel) rfl rfl (Nat.le_of_ble_eq_true rfl) dX0_dividedBy_172 (fun H locs hP hD hS => ?_)
    have hP : va_P (dC, dI) vwCl [(h0, .inr (0, [.int t_p, .int t_a, .int t_b, .int t_from, .int t_kernelPoint, .int t_kernelOrder, .int t_points, .int t_inner, .int t_outer, .int t_makersFound, .int t_first, .int t_second])), (q118, .inr (0, [.int u25, .int u26, .int u27, .int a1, .int a0, .int 0, .int 0, .int 0, .int 0, .int 0, .int u28, .int u29]))] H := hP
    have hD : va_D A [(h0, .inr (0, [.int t_p, .int t_a, .int t_b, .int t_from, .int t_kernelPoint, .int t_kernelOrder, .int t_points, .int t_inner, .int t_outer, .int t_makersFound, .int t_first, .int t_second])), (q118, .inr (0, [.int u25, .int u26, .int u27, .int a1, .int a0, .int 0, .int 0, .int 0, .int 0, .int 0, .int u28, .int u29]))] := hD
    refine lv_aload hx hb dX0_dividedBy_175 (lv_at hl 0 rfl) ?_
    refine lv_iload hx hb dX0_dividedBy_177 (lv_at hl 3 rfl) ?_
    refine va_put (D := (dC, dI)) (ci := 0) (v := .int y7) (ty := .int) (C := RX0) (T := TX0) (N := 12) hx hb hts (by decide +kernel) tyX0 tyX0_ok nmX0 hown hK hP hD hS 1 rfl rfl 5 (by decide) (hts (.fieldLink RX0 102 "PointRings$Curve" "kernelOrder" "I") (by decide +kernel)) (fun _ h9 => h9) rfl (by decide +kernel) rfl rfl (Nat.le_of_ble_eq_true rfl) dX0_dividedBy_179 (fun H locs hP hD hS => ?_)
    have hP : va_P (dC, dI) vwCl [(h0, .inr (0, [.int t_p, .int t_a, .int t_b, .int t_from, .int t_kernelPoint, .int t_kernelOrder, .int t_points, .int t_inner, .int t_outer, .int t_makersFound, .int t_first, .int t_second])), (q118, .inr (0, [.int u25, .int u26, .int u27, .int a1, .int a0, .int y7, .int 0, .int 0, .int 0, .int 0, .int u28, .int u29]))] H := hP
    have hD : va_D A [(h0, .inr (0, [.int t_p, .int t_a, .int t_b, .int t_from, .int t_kernelPoint, .int t_kernelOrder, .int t_points, .int t_inner, .int t_outer, .int t_makersFound, .int t_first, .int t_second])), (q118, .inr (0, [.int u25, .int u26, .int u27, .int a1, .int a0, .int y7, .int 0, .int 0, .int 0, .int 0, .int u28, .int u29]))] := hD
    refine lv_aload hx hb dX0_dividedBy_182 (lv_at hl 0 rfl) ?_
    have hv : (u25, u26, u27, a1, a0, y7, 0, 0, 0, 0, u28, u29) = rr := Sum.inr.inj (Option.some.inj h)
    have hP9 := hP.sub (ws' := [(h0, .inr (0, [.int t_p, .int t_a, .int t_b, .int t_from, .int t_kernelPoint, .int t_kernelOrder, .int t_points, .int t_inner, .int t_outer, .int t_makersFound, .int t_first, .int t_second])), (q118, .inr (0, [.int u25, .int u26, .int u27, .int a1, .int a0, .int y7, .int 0, .int 0, .int 0, .int 0, .int u28, .int u29]))]) [0, 1] rfl
    have hD9 := hD.sub (ws' := [(h0, .inr (0, [.int t_p, .int t_a, .int t_b, .int t_from, .int t_kernelPoint, .int t_kernelOrder, .int t_points, .int t_inner, .int t_outer, .int t_makersFound, .int t_first, .int t_second])), (q118, .inr (0, [.int u25, .int u26, .int u27, .int a1, .int a0, .int y7, .int 0, .int 0, .int 0, .int 0, .int u28, .int u29]))]) [0, 1] (by decide) rfl
    have hK9 := hK.sub (tys' := []) [] rfl
    refine W.widen (k := 1) (n := 12) (by decide +kernel) (by decide +kernel) ?_
    exact W.aret (v := (.ref q118)) hx hb hr (Or.inl ⟨_, rfl⟩) (Or.inr ⟨_, rfl⟩) (fun t ht hW => ⟨⟨(u25, u26, u27, a1, a0, y7, 0, 0, 0, 0, u28, u29), q118, rfl, hv, by rw [ht]; exact hP9, va_K.moved hW.alike hK9, hD9⟩, hS.F ht⟩) hS.2.2 dX0_dividedBy_184
  · replace h := (if_neg c21).symm.trans h
    refine lv_null hx hb dX0_dividedBy_116 ?_
    exact absurd (Option.some.inj h) (fun hh => nomatch hh)
def mX0_imageOf_b25 (N : Nat) (a2 : Int32) (t_p : Int32) (t_a : Int32) (a0 : Int32) (a1 : Int32) (st : Int32 × Int32 × Int32 × Int32) : Option ((Int32 × Int32 × Int32 × Int32) ⊕ ((Int32 × Int32 × Int32 × Int32) ⊕ (Int32))) :=
  match st with
  | (x4, x5, x6, x7) => if a2 ≤ x7 then some (.inr (.inl (x4, x5, x6, x7))) else (mX0_sum N t_p t_a a0 x6).bind (fun r13 => if r13 = (-1) then some (.inr (.inr (-1))) else (mX5_xOf N r13).bind (fun r15 => (mX5_xOf N x6).bind (fun r16 => mi_let (x4 + (r15 - r16)) (fun v17 => (mX5_yOf N r13).bind (fun r18 => (mX5_yOf N x6).bind (fun r19 => mi_let (x5 + (r18 - r19)) (fun v20 => (mX0_sum N t_p t_a x6 a1).bind (fun r21 => mi_let (x7 + 1) (fun v22 => some (.inl (v17, v20, r21, v22)))))))))))
def mX0_imageOf (N : Nat) (t_p : Int32) (t_a : Int32) (a0 : Int32) (a1 : Int32) (a2 : Int32) : Option (Int32) := if a0 = (-1) then some (-1) else (mX5_xOf N a0).bind (fun r2 => (mX5_yOf N a0).bind (fun r3 => (mi_run (mX0_imageOf_b25 N a2 t_p t_a a0 a1) N (r2, r3, a1, 1)).bind (fun o23 => match o23 with | .inl (y8, y9, y10, y11) => (mJ9_floorMod_7cf53 N y8 t_p).bind (fun r24 => (mJ9_floorMod_7cf53 N y9 t_p).bind (fun r25 => (mX5_pair N r24 r25).bind (fun r26 => some r26))) | .inr r27 => some r27)))
abbrev rmX0_imageOf : Room := { frames := 2, cells := 0, slots := 0, locals := 60 }
set_option maxHeartbeats 4000000 in
set_option maxRecDepth 100000 in
theorem ctX0_imageOf (l : Launch) (N : Nat) (dC : Nat → ClassId) (dI : Nat → Nat → Nat) (h0 : Nat) (t_p : Int32) (t_a : Int32) (t_b : Int32) (t_from : Int32) (t_kernelPoint : Int32) (t_kernelOrder : Int32) (t_points : Int32) (t_inner : Int32) (t_outer : Int32) (t_makersFound : Int32) (t_first : Int32) (t_second : Int32) (a0 : Int32) (a1 : Int32) (a2 : Int32) (rr : Int32) (h : mX0_imageOf N t_p t_a a0 a1 a2 = some rr) : Met l yX0_imageOf wsX0_imageOf rmX0_imageOf (va_Pc [.ref h0, .int a0, .int a1, .int a2] (fun U => va_P (dC, dI) vwCl [(h0, .inr (0, [.int t_p, .int t_a, .int t_b, .int t_from, .int t_kernelPoint, .int t_kernelOrder, .int t_points, .int t_inner, .int t_outer, .int t_makersFound, .int t_first, .int t_second]))] U.heap ∧ va_K (dC, dI) vwCl [] U ∧ nw_all U)) (vp_Si (fun r => r = rr)) 0 0 (fun _ => False) := by
  refine Met.ofW (cc := cX0_imageOf) (maxL := 9) (ret := (some .int)) (by decide) rfl ?_
  intro p e s m args below meth c s₁ B hml hv
  obtain ⟨rfl, hP, hK, hN⟩ := hv
  have hx := B.exec
  have hb := B.bytes
  have hr := B.returns
  have hts := atoms_spec (ws := wsX0_imageOf) B.pre
  have hown : s.vm.findClass RX0 = some m.cls := findClass_of_methodNamed B.named
  have hlocks := B.notSynchronized
  have hl := lv_entry ([.ref h0, .int a0, .int a1, .int a2]) (n := 9) (Nat.le_of_ble_eq_true rfl)
  rw [lg_entry_eq]
  generalize (lg_sl ([.ref h0, .int a0, .int a1, .int a2]) ++ List.replicate (9 - (lg_sl ([.ref h0, .int a0, .int a1, .int a2])).length) Slot.unset).toArray = ls at hl ⊢
  have hl : lv_has ls 9 [(0, .ref h0), (1, .int a0), (2, .int a1), (3, .int a2)] := hl
  dsimp only [mX0_imageOf] at h
  refine lv_iload_n hx hb dX0_imageOf_0 rfl (lv_at hl 1 rfl) ?_
  refine lv_iconst (v := (-1)) hx hb dX0_imageOf_1 (by decide) ?_
  refine lv_icmp_ne (tgt := 7) hx hb dX0_imageOf_2 (by decide) (fun c1 => ?_) (fun c1 => ?_)
  · replace h := (if_neg c1).symm.trans h
    refine lv_iload_n hx hb dX0_imageOf_7 rfl (lv_at hl 1 rfl) ?_
    obtain ⟨r2, hr2, h⟩ := Option.bind_eq_some_iff.mp h
    refine vp_callSi (mi_cr (va_runSN (As := [.int a0]) (rest := []) ⟨hx, hb, hml, hown, hts⟩ (ctX5_xOf l N  a0 r2 hr2) ⟨va_cnB 1 hts gX0_imageOf_X5_xOf_n27 rfl rfl rfl (nw_X0_27 hN) (hts (.initialized RX5) (by decide +kernel)) (by decide +kernel) ⟨Nat.le_of_ble_eq_true rfl, Nat.le_of_ble_eq_true rfl⟩, hts (.static yX5_xOf) (by decide +kernel), trivial⟩ preEq rfl rfl hl.1 rfl (lv_room (Nat.le_of_ble_eq_true rfl)) dX0_imageOf_8 ⟨Nat.le_of_ble_eq_true rfl, Nat.le_of_ble_eq_true rfl⟩)) (fun q9 eq9 => ?_)
    subst q9
    refine lv_istore (lv' := [(4, .int r2), (0, .ref h0), (1, .int a0), (2, .int a1), (3, .int a2)]) hx hb dX0_imageOf_11 hl (by decide) rfl (fun ls hl => ?_)
    refine lv_iload_n hx hb dX0_imageOf_13 rfl (lv_at hl 2 rfl) ?_
    obtain ⟨r3, hr3, h⟩ := Option.bind_eq_some_iff.mp h
    refine vp_callSi (mi_cr (va_runSN (As := [.int a0]) (rest := []) ⟨hx, hb, hml, hown, hts⟩ (ctX5_yOf l N  a0 r3 hr3) ⟨va_cnB 1 hts gX0_imageOf_X5_yOf_n31 rfl rfl rfl (nw_X0_31 hN) (hts (.initialized RX5) (by decide +kernel)) (by decide +kernel) ⟨Nat.le_of_ble_eq_true rfl, Nat.le_of_ble_eq_true rfl⟩, hts (.static yX5_yOf) (by decide +kernel), trivial⟩ preEq rfl rfl hl.1 rfl (lv_room (Nat.le_of_ble_eq_true rfl)) dX0_imageOf_14 ⟨Nat.le_of_ble_eq_true rfl, Nat.le_of_ble_eq_true rfl⟩)) (fun q9 eq9 => ?_)
    subst q9
    refine lv_istore (lv' := [(5, .int r3), (4, .int r2), (0, .ref h0), (1, .int a0), (2, .int a1), (3, .int a2)]) hx hb dX0_imageOf_17 hl (by decide) rfl (fun ls hl => ?_)
    refine lv_iload_n hx hb dX0_imageOf_19 rfl (lv_at hl 4 rfl) ?_
    refine lv_istore (lv' := [(6, .int a1), (5, .int r3), (4, .int r2), (0, .ref h0), (1, .int a0), (2, .int a1), (3, .int a2)]) hx hb dX0_imageOf_20 hl (by decide) rfl (fun ls hl => ?_)
    refine lv_iconst (v := 1) hx hb dX0_imageOf_22 (by decide) ?_
    refine lv_istore (lv' := [(7, .int 1), (6, .int a1), (5, .int r3), (4, .int r2), (0, .ref h0), (1, .int a0), (2, .int a1), (3, .int a2)]) hx hb dX0_imageOf_23 hl (by decide) rfl (fun ls hl => ?_)
    have L25 : ∀ (n : Nat) (x4 : Int32) (x5 : Int32) (x6 : Int32) (x7 : Int32) (o : (Int32 × Int32 × Int32 × Int32) ⊕ (Int32)), mi_run (mX0_imageOf_b25 N a2 t_p t_a a0 a1) n (x4, x5, x6, x7) = some o → (∀ (y8 : Int32) (y9 : Int32) (y10 : Int32) (y11 : Int32), o = .inl (y8, y9, y10, y11) → ∀ ls, lv_has ls 9 [(4, .int y8), (5, .int y9), (6, .int y10), (7, .int y11), (0, .ref h0), (1, .int a0), (2, .int a1), (3, .int a2)] → W p l e (headSpec wsX0_imageOf rmX0_imageOf).room s m (([.ref h0, .int a0, .int a1, .int a2] : List Value).toArray) below meth c s.heap [] 0 0 (MQ below (vp_Si (fun r => r = rr)) (([.ref h0, .int a0, .int a1, .int a2] : List Value).toArray) s 0 0 (fun _ => False)) (F0 m 95 ls [])) → (∀ v : Int32, o = .inr v → v = rr) → ∀ ls, lv_has ls 9 [(4, .int x4), (5, .int x5), (6, .int x6), (7, .int x7), (0, .ref h0), (1, .int a0), (2, .int a1), (3, .int a2)] → W p l e (headSpec wsX0_imageOf rmX0_imageOf).room s m (([.ref h0, .int a0, .int a1, .int a2] : List Value).toArray) below meth c s.heap [] 0 0 (MQ below (vp_Si (fun r => r = rr)) (([.ref h0, .int a0, .int a1, .int a2] : List Value).toArray) s 0 0 (fun _ => False)) (F0 m 25 ls []) := by
      intro n
      induction n with
      | zero => intro x4 x5 x6 x7 o h; exact absurd h (mi_run_0 _ _ _)
      | succ n ih =>
        intro x4 x5 x6 x7 o h hkE hkR ls hl
        obtain ⟨w, h, hA, hB⟩ := mi_run_s h
        dsimp only [mX0_imageOf_b25] at h
        refine lv_iload hx hb dX0_imageOf_25 (lv_at hl 3 rfl) ?_
        refine lv_iload_n hx hb dX0_imageOf_27 rfl (lv_at hl 7 rfl) ?_
        refine lv_icmp_ge (tgt := 95) hx hb dX0_imageOf_28 (by decide) (fun c12 => ?_) (fun c12 => ?_)
        · replace h := (if_pos c12).symm.trans h
          exact hkE _ _ _ _ (hB _ (Option.some.inj h).symm) ls (lv_sub hl [0, 1, 2, 3, 4, 5, 6, 7] rfl)
        · replace h := (if_neg c12).symm.trans h
          refine lv_aload_n hx hb dX0_imageOf_31 rfl (lv_at hl 4 rfl) ?_
          refine lv_iload_n hx hb dX0_imageOf_32 rfl (lv_at hl 5 rfl) ?_
          refine lv_iload hx hb dX0_imageOf_33 (lv_at hl 2 rfl) ?_
          obtain ⟨r13, hr13, h⟩ := Option.bind_eq_some_iff.mp h
          have hPc := hP.sub (ws' := [(h0, .inr (0, [.int t_p, .int t_a, .int t_b, .int t_from, .int t_kernelPoint, .int t_kernelOrder, .int t_points, .int t_inner, .int t_outer, .int t_makersFound, .int t_first, .int t_second]))]) [0] rfl
          have hKc := hK.sub (tys' := []) [] rfl
          refine vp_callSi (W.runV (As := [.int a0, .int x6]) (rest := []) ⟨hx, hb, hml, hown, hts⟩ (ctX0_sum l N dC dI  h0 t_p t_a t_b t_from t_kernelPoint t_kernelOrder t_points t_inner t_outer t_makersFound t_first t_second a0 x6 r13 hr13) (cwV 2 hts gX0_imageOf_X0_sum rfl rfl rfl (by decide +kernel) ⟨Nat.le_of_ble_eq_true rfl, Nat.le_of_ble_eq_true rfl⟩) ⟨fun a U g mk q => by obtain ⟨q0, qP, qK, qN⟩ := q; exact ⟨q0, qP, va_K.moved (u := U) (U := U.calling g mk a) (Vm.Alike.refl U.vm) qK, nw_same (u := U) (U := U.calling g mk a) rfl qN⟩, va_recv hKc hPc (ci := 0) (q0 := 0) rfl rfl, fun U hU hW => ⟨rfl, by rw [hU]; exact hPc, va_K.moved hW.alike hKc, nw_warm hW hN⟩⟩ rfl rfl hl.1 rfl (lv_room (Nat.le_of_ble_eq_true rfl)) dX0_imageOf_35 ⟨Nat.le_of_ble_eq_true rfl, Nat.le_of_ble_eq_true rfl⟩) (fun q9 eq9 => ?_)
          subst q9
          refine lv_istore (lv' := [(8, .int r13), (4, .int x4), (5, .int x5), (6, .int x6), (7, .int x7), (0, .ref h0), (1, .int a0), (2, .int a1), (3, .int a2)]) hx hb dX0_imageOf_38 hl (by decide) rfl (fun ls hl => ?_)
          refine lv_iload hx hb dX0_imageOf_40 (lv_at hl 0 rfl) ?_
          refine lv_iconst (v := (-1)) hx hb dX0_imageOf_42 (by decide) ?_
          refine lv_icmp_ne (tgt := 48) hx hb dX0_imageOf_43 (by decide) (fun c14 => ?_) (fun c14 => ?_)
          · replace h := (if_neg c14).symm.trans h
            refine lv_iload hx hb dX0_imageOf_48 (lv_at hl 1 rfl) ?_
            refine lv_iload hx hb dX0_imageOf_50 (lv_at hl 0 rfl) ?_
            obtain ⟨r15, hr15, h⟩ := Option.bind_eq_some_iff.mp h
            refine vp_callSi (mi_cr (va_runSN (As := [.int r13]) (rest := [.int x4]) ⟨hx, hb, hml, hown, hts⟩ (ctX5_xOf l N  r13 r15 hr15) ⟨va_cnB 1 hts gX0_imageOf_X5_xOf_n27 rfl rfl rfl (nw_X0_27 hN) (hts (.initialized RX5) (by decide +kernel)) (by decide +kernel) ⟨Nat.le_of_ble_eq_true rfl, Nat.le_of_ble_eq_true rfl⟩, hts (.static yX5_xOf) (by decide +kernel), trivial⟩ preEq rfl rfl hl.1 rfl (lv_room (Nat.le_of_ble_eq_true rfl)) dX0_imageOf_52 ⟨Nat.le_of_ble_eq_true rfl, Nat.le_of_ble_eq_true rfl⟩)) (fun q9 eq9 => ?_)
            subst q9
            refine lv_iload hx hb dX0_imageOf_55 (lv_at hl 3 rfl) ?_
            obtain ⟨r16, hr16, h⟩ := Option.bind_eq_some_iff.mp h
            refine vp_callSi (mi_cr (va_runSN (As := [.int x6]) (rest := [.int r15, .int x4]) ⟨hx, hb, hml, hown, hts⟩ (ctX5_xOf l N  x6 r16 hr16) ⟨va_cnB 1 hts gX0_imageOf_X5_xOf_n27 rfl rfl rfl (nw_X0_27 hN) (hts (.initialized RX5) (by decide +kernel)) (by decide +kernel) ⟨Nat.le_of_ble_eq_true rfl, Nat.le_of_ble_eq_true rfl⟩, hts (.static yX5_xOf) (by decide +kernel), trivial⟩ preEq rfl rfl hl.1 rfl (lv_room (Nat.le_of_ble_eq_true rfl)) dX0_imageOf_57 ⟨Nat.le_of_ble_eq_true rfl, Nat.le_of_ble_eq_true rfl⟩)) (fun q9 eq9 => ?_)
            subst q9
            refine lv_isub hx hb dX0_imageOf_60 ?_
            refine lv_iadd hx hb dX0_imageOf_61 ?_
            refine lv_topi (fun v17 ev17 => ?_)
            replace h := mi_use ev17 h
            refine lv_istore (lv' := [(4, .int v17), (8, .int r13), (5, .int x5), (6, .int x6), (7, .int x7), (0, .ref h0), (1, .int a0), (2, .int a1), (3, .int a2)]) hx hb dX0_imageOf_62 hl (by decide) rfl (fun ls hl => ?_)
            refine lv_iload hx hb dX0_imageOf_64 (lv_at hl 2 rfl) ?_
            refine lv_iload hx hb dX0_imageOf_66 (lv_at hl 1 rfl) ?_
            obtain ⟨r18, hr18, h⟩ := Option.bind_eq_some_iff.mp h
            refine vp_callSi (mi_cr (va_runSN (As := [.int r13]) (rest := [.int x5]) ⟨hx, hb, hml, hown, hts⟩ (ctX5_yOf l N  r13 r18 hr18) ⟨va_cnB 1 hts gX0_imageOf_X5_yOf_n31 rfl rfl rfl (nw_X0_31 hN) (hts (.initialized RX5) (by decide +kernel)) (by decide +kernel) ⟨Nat.le_of_ble_eq_true rfl, Nat.le_of_ble_eq_true rfl⟩, hts (.static yX5_yOf) (by decide +kernel), trivial⟩ preEq rfl rfl hl.1 rfl (lv_room (Nat.le_of_ble_eq_true rfl)) dX0_imageOf_68 ⟨Nat.le_of_ble_eq_true rfl, Nat.le_of_ble_eq_true rfl⟩)) (fun q9 eq9 => ?_)
            subst q9
            refine lv_iload hx hb dX0_imageOf_71 (lv_at hl 3 rfl) ?_
            obtain ⟨r19, hr19, h⟩ := Option.bind_eq_some_iff.mp h
            refine vp_callSi (mi_cr (va_runSN (As := [.int x6]) (rest := [.int r18, .int x5]) ⟨hx, hb, hml, hown, hts⟩ (ctX5_yOf l N  x6 r19 hr19) ⟨va_cnB 1 hts gX0_imageOf_X5_yOf_n31 rfl rfl rfl (nw_X0_31 hN) (hts (.initialized RX5) (by decide +kernel)) (by decide +kernel) ⟨Nat.le_of_ble_eq_true rfl, Nat.le_of_ble_eq_true rfl⟩, hts (.static yX5_yOf) (by decide +kernel), trivial⟩ preEq rfl rfl hl.1 rfl (lv_room (Nat.le_of_ble_eq_true rfl)) dX0_imageOf_73 ⟨Nat.le_of_ble_eq_true rfl, Nat.le_of_ble_eq_true rfl⟩)) (fun q9 eq9 => ?_)
            subst q9
            refine lv_isub hx hb dX0_imageOf_76 ?_
            refine lv_iadd hx hb dX0_imageOf_77 ?_
            refine lv_topi (fun v20 ev20 => ?_)
            replace h := mi_use ev20 h
            refine lv_istore (lv' := [(5, .int v20), (4, .int v17), (8, .int r13), (6, .int x6), (7, .int x7), (0, .ref h0), (1, .int a0), (2, .int a1), (3, .int a2)]) hx hb dX0_imageOf_78 hl (by decide) rfl (fun ls hl => ?_)
            refine lv_aload_n hx hb dX0_imageOf_80 rfl (lv_at hl 5 rfl) ?_
            refine lv_iload hx hb dX0_imageOf_81 (lv_at hl 3 rfl) ?_
            refine lv_iload_n hx hb dX0_imageOf_83 rfl (lv_at hl 7 rfl) ?_
            obtain ⟨r21, hr21, h⟩ := Option.bind_eq_some_iff.mp h
            have hPc := hP.sub (ws' := [(h0, .inr (0, [.int t_p, .int t_a, .int t_b, .int t_from, .int t_kernelPoint, .int t_kernelOrder, .int t_points, .int t_inner, .int t_outer, .int t_makersFound, .int t_first, .int t_second]))]) [0] rfl
            have hKc := hK.sub (tys' := []) [] rfl
            refine vp_callSi (W.runV (As := [.int x6, .int a1]) (rest := []) ⟨hx, hb, hml, hown, hts⟩ (ctX0_sum l N dC dI  h0 t_p t_a t_b t_from t_kernelPoint t_kernelOrder t_points t_inner t_outer t_makersFound t_first t_second x6 a1 r21 hr21) (cwV 2 hts gX0_imageOf_X0_sum rfl rfl rfl (by decide +kernel) ⟨Nat.le_of_ble_eq_true rfl, Nat.le_of_ble_eq_true rfl⟩) ⟨fun a U g mk q => by obtain ⟨q0, qP, qK, qN⟩ := q; exact ⟨q0, qP, va_K.moved (u := U) (U := U.calling g mk a) (Vm.Alike.refl U.vm) qK, nw_same (u := U) (U := U.calling g mk a) rfl qN⟩, va_recv hKc hPc (ci := 0) (q0 := 0) rfl rfl, fun U hU hW => ⟨rfl, by rw [hU]; exact hPc, va_K.moved hW.alike hKc, nw_warm hW hN⟩⟩ rfl rfl hl.1 rfl (lv_room (Nat.le_of_ble_eq_true rfl)) dX0_imageOf_84 ⟨Nat.le_of_ble_eq_true rfl, Nat.le_of_ble_eq_true rfl⟩) (fun q9 eq9 => ?_)
            subst q9
            refine lv_istore (lv' := [(6, .int r21), (5, .int v20), (4, .int v17), (8, .int r13), (7, .int x7), (0, .ref h0), (1, .int a0), (2, .int a1), (3, .int a2)]) hx hb dX0_imageOf_87 hl (by decide) rfl (fun ls hl => ?_)
            obtain ⟨v22, ev22⟩ : ∃ z : Int32, z = x7 + 1 := ⟨_, rfl⟩
            refine lv_iinc (v := v22) (lv' := [(7, .int v22), (6, .int r21), (5, .int v20), (4, .int v17), (8, .int r13), (0, .ref h0), (1, .int a0), (2, .int a1), (3, .int a2)]) hx hb dX0_imageOf_89 hl (k := 4) rfl (by rw [ev22]; rfl) (by decide) rfl (fun ls hl => ?_)
            replace h := mi_use ev22 h
            refine lv_goto (tgt := 25) hx hb dX0_imageOf_92 (by decide) ?_
            exact ih _ _ _ _ _ (hA _ (Option.some.inj h).symm) hkE hkR ls (lv_sub hl [3, 2, 1, 0, 5, 6, 7, 8] rfl)
          · replace h := (if_pos c14).symm.trans h
            refine lv_iconst (v := (-1)) hx hb dX0_imageOf_46 (by decide) ?_
            have hv : (-1) = rr := hkR _ (hB _ (Option.some.inj h).symm)
            exact W.iret (v := (-1)) hx hb hr (fun t ht hW => ⟨_, rfl, hv, ht⟩) (fun q hq => absurd hq List.not_mem_nil) dX0_imageOf_47
    obtain ⟨o23, ho23, h⟩ := Option.bind_eq_some_iff.mp h
    refine L25 N _ _ _ _ o23 ho23 ?_ ?_ ls (lv_sub hl [3, 2, 1, 0, 4, 5, 6, 7] rfl)
    · intro y8 y9 y10 y11 eo ls hl
      subst eo
      try dsimp only at h
      refine lv_iload hx hb dX0_imageOf_95 (lv_at hl 0 rfl) ?_
      refine lv_aload_n hx hb dX0_imageOf_97 rfl (lv_at hl 4 rfl) ?_
      refine va_get (D := (dC, dI)) (ci := 0) (v := .int t_p) (C := RX0) (T := TX0) (N := 12) hx hb hts (by decide +kernel) hown hK hP 0 rfl rfl 0 (by decide) (hts (.fieldLink RX0 9 "PointRings$Curve" "p" "I") (by decide +kernel)) (fun _ h9 => h9) rfl dX0_imageOf_98 ?_
      obtain ⟨r24, hr24, h⟩ := Option.bind_eq_some_iff.mp h
      refine vp_callSi (W.runS (As := [.int y8, .int t_p]) (rest := []) ⟨hx, hb, hml, hown, hts⟩ (ctJ9_floorMod_7cf53 l N  y8 t_p r24 hr24) (va_cwS 2 hts gX0_imageOf_J9_floorMod_7cf53 rfl rfl rfl (by decide +kernel) ⟨Nat.le_of_ble_eq_true rfl, Nat.le_of_ble_eq_true rfl⟩) preEq rfl rfl hl.1 rfl (lv_room (Nat.le_of_ble_eq_true rfl)) dX0_imageOf_101 ⟨Nat.le_of_ble_eq_true rfl, Nat.le_of_ble_eq_true rfl⟩) (fun q9 eq9 => ?_)
      subst q9
      refine lv_iload hx hb dX0_imageOf_104 (lv_at hl 1 rfl) ?_
      refine lv_aload_n hx hb dX0_imageOf_106 rfl (lv_at hl 4 rfl) ?_
      refine va_get (D := (dC, dI)) (ci := 0) (v := .int t_p) (C := RX0) (T := TX0) (N := 12) hx hb hts (by decide +kernel) hown hK hP 0 rfl rfl 0 (by decide) (hts (.fieldLink RX0 9 "PointRings$Curve" "p" "I") (by decide +kernel)) (fun _ h9 => h9) rfl dX0_imageOf_107 ?_
      obtain ⟨r25, hr25, h⟩ := Option.bind_eq_some_iff.mp h
      refine vp_callSi (W.runS (As := [.int y9, .int t_p]) (rest := [.int r24]) ⟨hx, hb, hml, hown, hts⟩ (ctJ9_floorMod_7cf53 l N  y9 t_p r25 hr25) (va_cwS 2 hts gX0_imageOf_J9_floorMod_7cf53 rfl rfl rfl (by decide +kernel) ⟨Nat.le_of_ble_eq_true rfl, Nat.le_of_ble_eq_true rfl⟩) preEq rfl rfl hl.1 rfl (lv_room (Nat.le_of_ble_eq_true rfl)) dX0_imageOf_110 ⟨Nat.le_of_ble_eq_true rfl, Nat.le_of_ble_eq_true rfl⟩) (fun q9 eq9 => ?_)
      subst q9
      obtain ⟨r26, hr26, h⟩ := Option.bind_eq_some_iff.mp h
      refine vp_callSi (mi_cr (va_runSN (As := [.int r24, .int r25]) (rest := []) ⟨hx, hb, hml, hown, hts⟩ (ctX5_pair l N  r24 r25 r26 hr26) ⟨va_cnB 2 hts gX0_imageOf_X5_pair_n60 rfl rfl rfl (nw_X0_60 hN) (hts (.initialized RX5) (by decide +kernel)) (by decide +kernel) ⟨Nat.le_of_ble_eq_true rfl, Nat.le_of_ble_eq_true rfl⟩, hts (.static yX5_pair) (by decide +kernel), trivial⟩ preEq rfl rfl hl.1 rfl (lv_room (Nat.le_of_ble_eq_true rfl)) dX0_imageOf_113 ⟨Nat.le_of_ble_eq_true rfl, Nat.le_of_ble_eq_true rfl⟩)) (fun q9 eq9 => ?_)
      subst q9
      have hv : r26 = rr := Option.some.inj h
      exact W.iret (v := r26) hx hb hr (fun t ht hW => ⟨_, rfl, hv, ht⟩) (fun q hq => absurd hq List.not_mem_nil) dX0_imageOf_116
    · intro r27 eo
      subst eo
      try dsimp only at h
      exact Option.some.inj h
  · replace h := (if_pos c1).symm.trans h
    refine lv_iconst (v := (-1)) hx hb dX0_imageOf_5 (by decide) ?_
    have hv : (-1) = rr := Option.some.inj h
    exact W.iret (v := (-1)) hx hb hr (fun t ht hW => ⟨_, rfl, hv, ht⟩) (fun q hq => absurd hq List.not_mem_nil) dX0_imageOf_6
