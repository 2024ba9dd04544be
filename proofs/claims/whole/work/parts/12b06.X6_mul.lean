def mX6_mul (N : Nat) (t_p : Int32) (a0 : Int32) (a1 : Int32) : Option (Int32) := if t_p.toInt64 = 0 then none else mi_let (mi_lrem (a0.toInt64 * a1.toInt64) t_p.toInt64) (fun v2 => some v2.toInt32)
abbrev rmX6_mul : Room := { frames := 0, cells := 0, slots := 0, locals := 0 }
set_option maxHeartbeats 4000000 in
set_option maxRecDepth 100000 in
theorem ctX6_mul (l : Launch) (N : Nat) (dC : Nat → ClassId) (dI : Nat → Nat → Nat) (h0 : Nat) (h0_inverses : Nat) (h0_roots : Nat) (h0_points : Nat) (h0_ahead : Nat) (h0_ps : Nat) (h0_as : Nat) (h0_bs : Nat) (h0_from : Nat) (h0_kernelPoint : Nat) (h0_kernelOrder : Nat) (h0_marked : Nat) (h0_seen : Nat) (t_p : Int32) (t_a : Int32) (t_b : Int32) (t_rooted : Int32) (t_pointMany : Int32) (t_curves : Int32) (a0 : Int32) (a1 : Int32) (rr : Int32) (h : mX6_mul N t_p a0 a1 = some rr) : Met l yX6_mul wsX6_mul rmX6_mul (va_Pc [.ref h0, .int a0, .int a1] (fun U => va_P (dC, dI) vwCl [(h0, .inr (5, [.int t_p, .int t_a, .int t_b, .ref h0_inverses, .ref h0_roots, .int t_rooted, .ref h0_points, .int t_pointMany, .ref h0_ahead, .int t_curves, .ref h0_ps, .ref h0_as, .ref h0_bs, .ref h0_from, .ref h0_kernelPoint, .ref h0_kernelOrder, .ref h0_marked, .ref h0_seen]))] U.heap ∧ va_K (dC, dI) vwCl [] U ∧ nw_all U)) (vp_Si (fun r => r = rr)) 0 0 (fun _ => False) := by
  refine Met.ofW (cc := cX6_mul) (maxL := 3) (ret := (some .int)) (by decide) rfl ?_
  intro p e s m args below meth c s₁ B hml hv
  obtain ⟨rfl, hP, hK, hN⟩ := hv
  have hx := B.exec
  have hb := B.bytes
  have hr := B.returns
  have hts := atoms_spec (ws := wsX6_mul) B.pre
  have hown : s.vm.findClass RX6 = some m.cls := findClass_of_methodNamed B.named
  have hlocks := B.notSynchronized
  have hl := lv_entry ([.ref h0, .int a0, .int a1]) (n := 3) (Nat.le_of_ble_eq_true rfl)
  rw [lg_entry_eq]
  generalize (lg_sl ([.ref h0, .int a0, .int a1]) ++ List.replicate (3 - (lg_sl ([.ref h0, .int a0, .int a1])).length) Slot.unset).toArray = ls at hl ⊢
  have hl : lv_has ls 3 [(0, .ref h0), (1, .int a0), (2, .int a1)] := hl
  dsimp only [mX6_mul] at h
  refine lv_iload_n hx hb dX6_mul_0 rfl (lv_at hl 1 rfl) ?_
  refine lv_i2l hx hb dX6_mul_1 rfl ?_
  refine lv_iload_n hx hb dX6_mul_2 rfl (lv_at hl 2 rfl) ?_
  refine lv_i2l hx hb dX6_mul_3 rfl ?_
  refine lv_lmul hx hb dX6_mul_4 ?_
  refine lv_aload_n hx hb dX6_mul_5 rfl (lv_at hl 0 rfl) ?_
  refine va_get (D := (dC, dI)) (ci := 5) (v := .int t_p) (C := RX6) (T := TX6) (N := 18) hx hb hts (by decide +kernel) hown hK hP 0 rfl rfl 0 (by decide) (hts (.fieldLink RX6 47 "PointRingsModel" "p" "I") (by decide +kernel)) (fun _ h9 => h9) rfl dX6_mul_6 ?_
  refine lv_i2l hx hb dX6_mul_9 rfl ?_
  have hn1 : ¬ t_p.toInt64 = 0 := fun hz => absurd ((if_pos hz).symm.trans h) (fun hh => nomatch hh)
  replace h := (if_neg hn1).symm.trans h
  refine lv_lrem hx hb dX6_mul_10 hn1 ?_
  refine lv_topl (fun v2 ev2 => ?_)
  replace h := mi_use ev2 h
  refine lv_l2i hx hb dX6_mul_11 rfl ?_
  have hv : v2.toInt32 = rr := Option.some.inj h
  exact W.iret (v := v2.toInt32) hx hb hr (fun t ht hW => ⟨_, rfl, hv, ht⟩) (fun q hq => absurd hq List.not_mem_nil) dX6_mul_12
