def mX5_curves (N : Nat) (t_size : Int32) : Option (Int32) := some t_size
abbrev rmX5_curves : Room := { frames := 0, cells := 0, slots := 0, locals := 0 }
set_option maxHeartbeats 4000000 in
set_option maxRecDepth 100000 in
theorem ctX5_curves (l : Launch) (N : Nat) (dC : Nat → ClassId) (dI : Nat → Nat → Nat) (h0 : Nat) (h0_held : Nat) (h0_survey : Nat) (t_size : Int32) (rr : Int32) (h : mX5_curves N t_size = some rr) : Met l yX5_curves wsX5_curves rmX5_curves (va_Pc [.ref h0] (fun U => va_P (dC, dI) vwCl [(h0, .inr (4, [.ref h0_held, .int t_size, .ref h0_survey]))] U.heap ∧ va_K (dC, dI) vwCl [] U ∧ nw_all U)) (vp_Si (fun r => r = rr)) 0 0 (fun _ => False) := by
  refine Met.ofW (cc := cX5_curves) (maxL := 1) (ret := (some .int)) (by decide) rfl ?_
  intro p e s m args below meth c s₁ B hml hv
  obtain ⟨rfl, hP, hK, hN⟩ := hv
  have hx := B.exec
  have hb := B.bytes
  have hr := B.returns
  have hts := atoms_spec (ws := wsX5_curves) B.pre
  have hown : s.vm.findClass RX5 = some m.cls := findClass_of_methodNamed B.named
  have hlocks := B.notSynchronized
  have hl := lv_entry ([.ref h0]) (n := 1) (Nat.le_of_ble_eq_true rfl)
  rw [lg_entry_eq]
  generalize (lg_sl ([.ref h0]) ++ List.replicate (1 - (lg_sl ([.ref h0])).length) Slot.unset).toArray = ls at hl ⊢
  have hl : lv_has ls 1 [(0, .ref h0)] := hl
  dsimp only [mX5_curves] at h
  refine lv_aload_n hx hb dX5_curves_0 rfl (lv_at hl 0 rfl) ?_
  refine va_get (D := (dC, dI)) (ci := 4) (v := .int t_size) (C := RX5) (T := TX5) (N := 3) hx hb hts (by decide +kernel) hown hK hP 0 rfl rfl 1 (by decide) (hts (.fieldLink RX5 15 "PointRings" "size" "I") (by decide +kernel)) (fun _ h9 => h9) rfl dX5_curves_1 ?_
  have hv : t_size = rr := Option.some.inj h
  exact W.iret (v := t_size) hx hb hr (fun t ht hW => ⟨_, rfl, hv, ht⟩) (fun q hq => absurd hq List.not_mem_nil) dX5_curves_4
