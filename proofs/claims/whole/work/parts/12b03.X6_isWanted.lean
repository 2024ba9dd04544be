def mX6_isWanted (N : Nat) (a0 : Int32) : Option (Int32) := (mX6_in N a0.toInt64 5 10007).bind (fun r1 => if r1 = 0 then some 0 else (mX6_isPrime N a0).bind (fun r3 => if r3 = 0 then some 0 else some 1))
abbrev rmX6_isWanted : Room := { frames := 1, cells := 0, slots := 0, locals := 25 }
set_option maxHeartbeats 4000000 in
set_option maxRecDepth 100000 in
theorem ctX6_isWanted (l : Launch) (N : Nat) (a0 : Int32) (rr : Int32) (h : mX6_isWanted N a0 = some rr) : Met l yX6_isWanted wsX6_isWanted rmX6_isWanted (fun v _ => v = ([.int a0] : List Value).toArray) (vp_Si (fun r => r = rr)) 0 0 (fun _ => False) := by
  refine Met.ofW (cc := cX6_isWanted) (maxL := 1) (ret := (some .boolean)) (by decide) rfl ?_
  intro p e s m args below meth c s₁ B hml hv
  subst hv
  have hx := B.exec
  have hb := B.bytes
  have hr := B.returns
  have hts := atoms_spec (ws := wsX6_isWanted) B.pre
  have hown : s.vm.findClass RX6 = some m.cls := findClass_of_methodNamed B.named
  have hlocks := B.notSynchronized
  have hl := lv_entry ([.int a0]) (n := 1) (Nat.le_of_ble_eq_true rfl)
  rw [lg_entry_eq]
  generalize (lg_sl ([.int a0]) ++ List.replicate (1 - (lg_sl ([.int a0])).length) Slot.unset).toArray = ls at hl ⊢
  have hl : lv_has ls 1 [(0, .int a0)] := hl
  dsimp only [mX6_isWanted] at h
  refine lv_iload_n hx hb dX6_isWanted_0 rfl (lv_at hl 0 rfl) ?_
  refine lv_i2l hx hb dX6_isWanted_1 rfl ?_
  refine lv_ldc2 (v := 5) hx hb hown (hts (.constantLong RX6 96 5) (by decide +kernel)) dX6_isWanted_2 ?_
  refine lv_ldc2 (v := 10007) hx hb hown (hts (.constantLong RX6 98 10007) (by decide +kernel)) dX6_isWanted_5 ?_
  obtain ⟨r1, hr1, h⟩ := Option.bind_eq_some_iff.mp h
  refine vp_callSi (W.runS (As := [.long a0.toInt64, .long 5, .long 10007]) (rest := []) ⟨hx, hb, hml, hown, hts⟩ (ctX6_in l N  a0.toInt64 5 10007 r1 hr1) (va_cwS 3 hts gX6_isWanted_X6_in rfl rfl rfl (by decide +kernel) ⟨Nat.le_of_ble_eq_true rfl, Nat.le_of_ble_eq_true rfl⟩) preEq rfl rfl hl.1 rfl (lv_room (Nat.le_of_ble_eq_true rfl)) dX6_isWanted_8 ⟨Nat.le_of_ble_eq_true rfl, Nat.le_of_ble_eq_true rfl⟩) (fun q9 eq9 => ?_)
  subst q9
  refine lv_if_eq (tgt := 25) hx hb dX6_isWanted_11 (by decide) (fun c2 => ?_) (fun c2 => ?_)
  · replace h := (if_pos c2).symm.trans h
    refine lv_iconst (v := 0) hx hb dX6_isWanted_25 (by decide) ?_
    have hv : 0 = rr := Option.some.inj h
    exact W.zret (v := 0) hx hb hr (by decide) (fun t ht hW => ⟨_, rfl, hv, ht⟩) (fun q hq => absurd hq List.not_mem_nil) dX6_isWanted_26
  · replace h := (if_neg c2).symm.trans h
    refine lv_iload_n hx hb dX6_isWanted_14 rfl (lv_at hl 0 rfl) ?_
    obtain ⟨r3, hr3, h⟩ := Option.bind_eq_some_iff.mp h
    refine vp_callSi (W.runS (As := [.int a0]) (rest := []) ⟨hx, hb, hml, hown, hts⟩ (ctX6_isPrime l N  a0 r3 hr3) (va_cwS 1 hts gX6_isWanted_X6_isPrime rfl rfl rfl (by decide +kernel) ⟨Nat.le_of_ble_eq_true rfl, Nat.le_of_ble_eq_true rfl⟩) preEq rfl rfl hl.1 rfl (lv_room (Nat.le_of_ble_eq_true rfl)) dX6_isWanted_15 ⟨Nat.le_of_ble_eq_true rfl, Nat.le_of_ble_eq_true rfl⟩) (fun q9 eq9 => ?_)
    subst q9
    refine lv_if_eq (tgt := 25) hx hb dX6_isWanted_18 (by decide) (fun c4 => ?_) (fun c4 => ?_)
    · replace h := (if_pos c4).symm.trans h
      refine lv_iconst (v := 0) hx hb dX6_isWanted_25 (by decide) ?_
      have hv : 0 = rr := Option.some.inj h
      exact W.zret (v := 0) hx hb hr (by decide) (fun t ht hW => ⟨_, rfl, hv, ht⟩) (fun q hq => absurd hq List.not_mem_nil) dX6_isWanted_26
    · replace h := (if_neg c4).symm.trans h
      refine lv_iconst (v := 1) hx hb dX6_isWanted_21 (by decide) ?_
      refine lv_goto (tgt := 26) hx hb dX6_isWanted_22 (by decide) ?_
      have hv : 1 = rr := Option.some.inj h
      exact W.zret (v := 1) hx hb hr (by decide) (fun t ht hW => ⟨_, rfl, hv, ht⟩) (fun q hq => absurd hq List.not_mem_nil) dX6_isWanted_26
