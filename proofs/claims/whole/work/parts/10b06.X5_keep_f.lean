def mX5_keep_f (N : Nat)  : Option (Int32) := some (-4)
abbrev rmX5_keep_f : Room := { frames := 0, cells := 0, slots := 0, locals := 0 }
set_option maxHeartbeats 4000000 in
set_option maxRecDepth 100000 in
theorem ctX5_keep_f (l : Launch) (N : Nat) (dC : Nat → ClassId) (dI : Nat → Nat → Nat) (h0 : Nat) (h0_held : Nat) (h0_survey : Nat) (h1 : Nat) (k_t_held : ClassId) (t_size : Int32) (t_held : Nat → Option Nat) (rr : Int32) (h : mX5_keep_f N  = some rr) (hk0 : ¬ t_size < 24) : Met l yX5_keep wsX5_keep rmX5_keep_f (va_Pc [.ref h0, .ref h1] (fun U => va_P (dC, dI) vwCl [(h0, .inr (4, [.ref h0_held, .int t_size, .ref h0_survey])), (h0_held, .inl (k_t_held, 24, .inr (.inr (.inr (.inr t_held)))))] U.heap ∧ va_K (dC, dI) vwCl [(k_t_held, .object "PointRings$Curve")] U ∧ nw_all U)) (vp_Si (fun r => r = rr)) 0 0 (fun _ => False) := by
  refine Met.ofW (cc := cX5_keep) (maxL := 2) (ret := (some .int)) (by decide) rfl ?_
  intro p e s m args below meth c s₁ B hml hv
  obtain ⟨rfl, hP, hK, hN⟩ := hv
  have hx := B.exec
  have hb := B.bytes
  have hr := B.returns
  have hts := atoms_spec (ws := wsX5_keep) B.pre
  have hown : s.vm.findClass RX5 = some m.cls := findClass_of_methodNamed B.named
  have hlocks := B.notSynchronized
  have hl := lv_entry ([.ref h0, .ref h1]) (n := 2) (Nat.le_of_ble_eq_true rfl)
  rw [lg_entry_eq]
  generalize (lg_sl ([.ref h0, .ref h1]) ++ List.replicate (2 - (lg_sl ([.ref h0, .ref h1])).length) Slot.unset).toArray = ls at hl ⊢
  have hl : lv_has ls 2 [(0, .ref h0), (1, .ref h1)] := hl
  dsimp only [mX5_keep_f] at h
  refine lv_aload_n hx hb dX5_keep_0 rfl (lv_at hl 0 rfl) ?_
  refine va_get (D := (dC, dI)) (ci := 4) (v := .int t_size) (C := RX5) (T := TX5) (N := 3) hx hb hts (by decide +kernel) hown hK hP 0 rfl rfl 1 (by decide) (hts (.fieldLink RX5 15 "PointRings" "size" "I") (by decide +kernel)) (fun _ h9 => h9) rfl dX5_keep_1 ?_
  refine lv_aload_n hx hb dX5_keep_4 rfl (lv_at hl 0 rfl) ?_
  refine va_get (D := (dC, dI)) (ci := 4) (v := .ref h0_held) (C := RX5) (T := TX5) (N := 3) hx hb hts (by decide +kernel) hown hK hP 0 rfl rfl 0 (by decide) (hts (.fieldLink RX5 11 "PointRings" "held" "[LPointRings$Curve;") (by decide +kernel)) (fun _ h9 => h9) rfl dX5_keep_5 ?_
  refine va_alen (v := 24) hx hb hK hP 1 0 rfl rfl rfl dX5_keep_8 ?_
  refine lv_icmp_lt (tgt := 15) hx hb dX5_keep_9 (by decide) (fun c1 => ?_) (fun c1 => ?_)
  · exact absurd c1 hk0
  · refine lv_bipush (v := (-4)) hx hb dX5_keep_12 (by decide) ?_
    have hv : (-4) = rr := Option.some.inj h
    exact W.iret (v := (-4)) hx hb hr (fun t ht hW => ⟨_, rfl, hv, ht⟩) (fun q hq => absurd hq List.not_mem_nil) dX5_keep_14
