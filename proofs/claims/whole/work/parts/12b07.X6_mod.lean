def mX6_mod (N : Nat) (t_p : Int32) (a0 : Int64) : Option (Int32) := if t_p.toInt64 = 0 then none else mi_let (mi_lrem a0 t_p.toInt64) (fun v2 => mi_let (v2.toInt32) (fun v3 => if 0 ≤ v3 then some v3 else some (v3 + t_p)))
abbrev rmX6_mod : Room := { frames := 0, cells := 0, slots := 0, locals := 0 }
set_option maxHeartbeats 4000000 in
set_option maxRecDepth 100000 in
theorem ctX6_mod (l : Launch) (N : Nat) (dC : Nat → ClassId) (dI : Nat → Nat → Nat) (h0 : Nat) (h0_inverses : Nat) (h0_roots : Nat) (h0_points : Nat) (h0_ahead : Nat) (h0_ps : Nat) (h0_as : Nat) (h0_bs : Nat) (h0_from : Nat) (h0_kernelPoint : Nat) (h0_kernelOrder : Nat) (h0_marked : Nat) (h0_seen : Nat) (t_p : Int32) (t_a : Int32) (t_b : Int32) (t_rooted : Int32) (t_pointMany : Int32) (t_curves : Int32) (a0 : Int64) (rr : Int32) (h : mX6_mod N t_p a0 = some rr) : Met l yX6_mod wsX6_mod rmX6_mod (va_Pc [.ref h0, .long a0] (fun U => va_P (dC, dI) vwCl [(h0, .inr (5, [.int t_p, .int t_a, .int t_b, .ref h0_inverses, .ref h0_roots, .int t_rooted, .ref h0_points, .int t_pointMany, .ref h0_ahead, .int t_curves, .ref h0_ps, .ref h0_as, .ref h0_bs, .ref h0_from, .ref h0_kernelPoint, .ref h0_kernelOrder, .ref h0_marked, .ref h0_seen]))] U.heap ∧ va_K (dC, dI) vwCl [] U ∧ nw_all U)) (vp_Si (fun r => r = rr)) 0 0 (fun _ => False) := by
  refine Met.ofW (cc := cX6_mod) (maxL := 4) (ret := (some .int)) (by decide) rfl ?_
  intro p e s m args below meth c s₁ B hml hv
  obtain ⟨rfl, hP, hK, hN⟩ := hv
  have hx := B.exec
  have hb := B.bytes
  have hr := B.returns
  have hts := atoms_spec (ws := wsX6_mod) B.pre
  have hown : s.vm.findClass RX6 = some m.cls := findClass_of_methodNamed B.named
  have hlocks := B.notSynchronized
  have hl := lv_entry ([.ref h0, .long a0]) (n := 4) (Nat.le_of_ble_eq_true rfl)
  rw [lg_entry_eq]
  generalize (lg_sl ([.ref h0, .long a0]) ++ List.replicate (4 - (lg_sl ([.ref h0, .long a0])).length) Slot.unset).toArray = ls at hl ⊢
  have hl : lv_has ls 4 [(0, .ref h0), (1, .long a0)] := hl
  dsimp only [mX6_mod] at h
  refine lv_lload_n hx hb dX6_mod_0 rfl (lv_at hl 1 rfl) ?_
  refine lv_aload_n hx hb dX6_mod_1 rfl (lv_at hl 0 rfl) ?_
  refine va_get (D := (dC, dI)) (ci := 5) (v := .int t_p) (C := RX6) (T := TX6) (N := 18) hx hb hts (by decide +kernel) hown hK hP 0 rfl rfl 0 (by decide) (hts (.fieldLink RX6 47 "PointRingsModel" "p" "I") (by decide +kernel)) (fun _ h9 => h9) rfl dX6_mod_2 ?_
  refine lv_i2l hx hb dX6_mod_5 rfl ?_
  have hn1 : ¬ t_p.toInt64 = 0 := fun hz => absurd ((if_pos hz).symm.trans h) (fun hh => nomatch hh)
  replace h := (if_neg hn1).symm.trans h
  refine lv_lrem hx hb dX6_mod_6 hn1 ?_
  refine lv_topl (fun v2 ev2 => ?_)
  replace h := mi_use ev2 h
  refine lv_l2i hx hb dX6_mod_7 rfl ?_
  refine lv_topi (fun v3 ev3 => ?_)
  replace h := mi_use ev3 h
  refine lv_istore_n (lv' := [(3, .int v3), (0, .ref h0), (1, .long a0)]) hx hb dX6_mod_8 rfl hl (by decide) rfl (fun ls hl => ?_)
  refine lv_iload_n hx hb dX6_mod_9 rfl (lv_at hl 0 rfl) ?_
  refine lv_if_ge (tgt := 22) hx hb dX6_mod_10 (by decide) (fun c4 => ?_) (fun c4 => ?_)
  · replace h := (if_pos c4).symm.trans h
    refine lv_iload_n hx hb dX6_mod_22 rfl (lv_at hl 0 rfl) ?_
    have hv : v3 = rr := Option.some.inj h
    exact W.iret (v := v3) hx hb hr (fun t ht hW => ⟨_, rfl, hv, ht⟩) (fun q hq => absurd hq List.not_mem_nil) dX6_mod_23
  · replace h := (if_neg c4).symm.trans h
    refine lv_iload_n hx hb dX6_mod_13 rfl (lv_at hl 0 rfl) ?_
    refine lv_aload_n hx hb dX6_mod_14 rfl (lv_at hl 1 rfl) ?_
    refine va_get (D := (dC, dI)) (ci := 5) (v := .int t_p) (C := RX6) (T := TX6) (N := 18) hx hb hts (by decide +kernel) hown hK hP 0 rfl rfl 0 (by decide) (hts (.fieldLink RX6 47 "PointRingsModel" "p" "I") (by decide +kernel)) (fun _ h9 => h9) rfl dX6_mod_15 ?_
    refine lv_iadd hx hb dX6_mod_18 ?_
    refine lv_goto (tgt := 23) hx hb dX6_mod_19 (by decide) ?_
    have hv : v3 + t_p = rr := Option.some.inj h
    exact W.iret (v := (v3 + t_p)) hx hb hr (fun t ht hW => ⟨_, rfl, hv, ht⟩) (fun q hq => absurd hq List.not_mem_nil) dX6_mod_23
