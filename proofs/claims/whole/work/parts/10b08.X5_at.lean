def mX5_at (N : Nat) (t_size : Int32) (t_held : Nat → Option Nat) (a0 : Int32) : Option (Option Nat) := if a0 < 0 then some none else if t_size ≤ a0 then some none else if 24 ≤ a0 then some none else if a0 < 0 ∨ 24 ≤ a0.toNatClampNeg then none else some (t_held a0.toNatClampNeg)
abbrev rmX5_at : Room := { frames := 0, cells := 0, slots := 0, locals := 0 }
set_option maxHeartbeats 4000000 in
set_option maxRecDepth 100000 in
theorem ctX5_at (l : Launch) (N : Nat) (dC : Nat → ClassId) (dI : Nat → Nat → Nat) (h0 : Nat) (h0_held : Nat) (h0_survey : Nat) (k_t_held : ClassId) (t_size : Int32) (t_held : Nat → Option Nat) (a0 : Int32) (rr : Option Nat) (h : mX5_at N t_size t_held a0 = some rr) : Met l yX5_at wsX5_at rmX5_at (va_Pc [.ref h0, .int a0] (fun U => va_P (dC, dI) vwCl [(h0, .inr (4, [.ref h0_held, .int t_size, .ref h0_survey])), (h0_held, .inl (k_t_held, 24, .inr (.inr (.inr (.inr t_held)))))] U.heap ∧ va_K (dC, dI) vwCl [(k_t_held, .object "PointRings$Curve")] U ∧ nw_all U)) (va_Sq (fun r => r = rr)) 0 0 (fun _ => False) := by
  refine Met.ofW (cc := cX5_at) (maxL := 2) (ret := (some (.object "PointRings$Curve"))) (by decide) rfl ?_
  intro p e s m args below meth c s₁ B hml hv
  obtain ⟨rfl, hP, hK, hN⟩ := hv
  have hx := B.exec
  have hb := B.bytes
  have hr := B.returns
  have hts := atoms_spec (ws := wsX5_at) B.pre
  have hown : s.vm.findClass RX5 = some m.cls := findClass_of_methodNamed B.named
  have hlocks := B.notSynchronized
  have hl := lv_entry ([.ref h0, .int a0]) (n := 2) (Nat.le_of_ble_eq_true rfl)
  rw [lg_entry_eq]
  generalize (lg_sl ([.ref h0, .int a0]) ++ List.replicate (2 - (lg_sl ([.ref h0, .int a0])).length) Slot.unset).toArray = ls at hl ⊢
  have hl : lv_has ls 2 [(0, .ref h0), (1, .int a0)] := hl
  dsimp only [mX5_at] at h
  refine lv_iload_n hx hb dX5_at_0 rfl (lv_at hl 1 rfl) ?_
  refine lv_if_lt (tgt := 30) hx hb dX5_at_1 (by decide) (fun c1 => ?_) (fun c1 => ?_)
  · replace h := (if_pos c1).symm.trans h
    refine lv_null hx hb dX5_at_30 ?_
    have hv : none = rr := Option.some.inj h
    exact W.aret (v := .null) hx hb hr (Or.inl ⟨_, rfl⟩) (Or.inl rfl) (fun t ht hW => ⟨none, rfl, hv, ht⟩) (fun q hq => absurd hq List.not_mem_nil) dX5_at_31
  · replace h := (if_neg c1).symm.trans h
    refine lv_iload_n hx hb dX5_at_4 rfl (lv_at hl 1 rfl) ?_
    refine lv_aload_n hx hb dX5_at_5 rfl (lv_at hl 0 rfl) ?_
    refine va_get (D := (dC, dI)) (ci := 4) (v := .int t_size) (C := RX5) (T := TX5) (N := 3) hx hb hts (by decide +kernel) hown hK hP 0 rfl rfl 1 (by decide) (hts (.fieldLink RX5 15 "PointRings" "size" "I") (by decide +kernel)) (fun _ h9 => h9) rfl dX5_at_6 ?_
    refine lv_icmp_ge (tgt := 30) hx hb dX5_at_9 (by decide) (fun c2 => ?_) (fun c2 => ?_)
    · replace h := (if_pos c2).symm.trans h
      refine lv_null hx hb dX5_at_30 ?_
      have hv : none = rr := Option.some.inj h
      exact W.aret (v := .null) hx hb hr (Or.inl ⟨_, rfl⟩) (Or.inl rfl) (fun t ht hW => ⟨none, rfl, hv, ht⟩) (fun q hq => absurd hq List.not_mem_nil) dX5_at_31
    · replace h := (if_neg c2).symm.trans h
      refine lv_iload_n hx hb dX5_at_12 rfl (lv_at hl 1 rfl) ?_
      refine lv_aload_n hx hb dX5_at_13 rfl (lv_at hl 0 rfl) ?_
      refine va_get (D := (dC, dI)) (ci := 4) (v := .ref h0_held) (C := RX5) (T := TX5) (N := 3) hx hb hts (by decide +kernel) hown hK hP 0 rfl rfl 0 (by decide) (hts (.fieldLink RX5 11 "PointRings" "held" "[LPointRings$Curve;") (by decide +kernel)) (fun _ h9 => h9) rfl dX5_at_14 ?_
      refine va_alen (v := 24) hx hb hK hP 1 0 rfl rfl rfl dX5_at_17 ?_
      refine lv_icmp_ge (tgt := 30) hx hb dX5_at_18 (by decide) (fun c3 => ?_) (fun c3 => ?_)
      · replace h := (if_pos c3).symm.trans h
        refine lv_null hx hb dX5_at_30 ?_
        have hv : none = rr := Option.some.inj h
        exact W.aret (v := .null) hx hb hr (Or.inl ⟨_, rfl⟩) (Or.inl rfl) (fun t ht hW => ⟨none, rfl, hv, ht⟩) (fun q hq => absurd hq List.not_mem_nil) dX5_at_31
      · replace h := (if_neg c3).symm.trans h
        refine lv_aload_n hx hb dX5_at_21 rfl (lv_at hl 0 rfl) ?_
        refine va_get (D := (dC, dI)) (ci := 4) (v := .ref h0_held) (C := RX5) (T := TX5) (N := 3) hx hb hts (by decide +kernel) hown hK hP 0 rfl rfl 0 (by decide) (hts (.fieldLink RX5 11 "PointRings" "held" "[LPointRings$Curve;") (by decide +kernel)) (fun _ h9 => h9) rfl dX5_at_22 ?_
        refine lv_iload_n hx hb dX5_at_25 rfl (lv_at hl 1 rfl) ?_
        have hi4 : ¬ (a0 < 0 ∨ 24 ≤ a0.toNatClampNeg) := fun hz => absurd ((if_pos hz).symm.trans h) (fun hh => nomatch hh)
        replace h := (if_neg hi4).symm.trans h
        refine va_aldq hx hb hK hP 1 0 rfl rfl hi4 dX5_at_26 ?_
        refine lv_goto (tgt := 31) hx hb dX5_at_27 (by decide) ?_
        have hv : t_held a0.toNatClampNeg = rr := Option.some.inj h
        exact W.aret (v := (va_rf (t_held a0.toNatClampNeg))) hx hb hr (Or.inl ⟨_, rfl⟩) (va_rf_or _) (fun t ht hW => ⟨t_held a0.toNatClampNeg, rfl, hv, ht⟩) (fun q hq => absurd hq List.not_mem_nil) dX5_at_31
