def mX6_in (N : Nat) (a0 : Int64) (a1 : Int64) (a2 : Int64) : Option (Int32) := mi_let (lg_cmp a0 a1) (fun v1 => if v1 < 0 then some 0 else mi_let (lg_cmp a0 a2) (fun v3 => if 0 < v3 then some 0 else some 1))
abbrev rmX6_in : Room := { frames := 0, cells := 0, slots := 0, locals := 0 }
set_option maxHeartbeats 4000000 in
set_option maxRecDepth 100000 in
theorem ctX6_in (l : Launch) (N : Nat) (a0 : Int64) (a1 : Int64) (a2 : Int64) (rr : Int32) (h : mX6_in N a0 a1 a2 = some rr) : Met l yX6_in wsX6_in rmX6_in (fun v _ => v = ([.long a0, .long a1, .long a2] : List Value).toArray) (vp_Si (fun r => r = rr)) 0 0 (fun _ => False) := by
  refine Met.ofW (cc := cX6_in) (maxL := 6) (ret := (some .boolean)) (by decide) rfl ?_
  intro p e s m args below meth c s₁ B hml hv
  subst hv
  have hx := B.exec
  have hb := B.bytes
  have hr := B.returns
  have hts := atoms_spec (ws := wsX6_in) B.pre
  have hown : s.vm.findClass RX6 = some m.cls := findClass_of_methodNamed B.named
  have hlocks := B.notSynchronized
  have hl := lv_entry ([.long a0, .long a1, .long a2]) (n := 6) (Nat.le_of_ble_eq_true rfl)
  rw [lg_entry_eq]
  generalize (lg_sl ([.long a0, .long a1, .long a2]) ++ List.replicate (6 - (lg_sl ([.long a0, .long a1, .long a2])).length) Slot.unset).toArray = ls at hl ⊢
  have hl : lv_has ls 6 [(0, .long a0), (2, .long a1), (4, .long a2)] := hl
  dsimp only [mX6_in] at h
  refine lv_lload_n hx hb dX6_in_0 rfl (lv_at hl 0 rfl) ?_
  refine lv_lload_n hx hb dX6_in_1 rfl (lv_at hl 1 rfl) ?_
  refine W.lcmp hx hb dX6_in_2 ?_
  refine lv_topi (fun v1 ev1 => ?_)
  replace h := mi_use ev1 h
  refine lv_if_lt (tgt := 17) hx hb dX6_in_3 (by decide) (fun c2 => ?_) (fun c2 => ?_)
  · replace h := (if_pos c2).symm.trans h
    refine lv_iconst (v := 0) hx hb dX6_in_17 (by decide) ?_
    have hv : 0 = rr := Option.some.inj h
    exact W.zret (v := 0) hx hb hr (by decide) (fun t ht hW => ⟨_, rfl, hv, ht⟩) (fun q hq => absurd hq List.not_mem_nil) dX6_in_18
  · replace h := (if_neg c2).symm.trans h
    refine lv_lload_n hx hb dX6_in_6 rfl (lv_at hl 0 rfl) ?_
    refine lv_lload hx hb dX6_in_7 (lv_at hl 2 rfl) ?_
    refine W.lcmp hx hb dX6_in_9 ?_
    refine lv_topi (fun v3 ev3 => ?_)
    replace h := mi_use ev3 h
    refine lv_if_gt (tgt := 17) hx hb dX6_in_10 (by decide) (fun c4 => ?_) (fun c4 => ?_)
    · replace h := (if_pos c4).symm.trans h
      refine lv_iconst (v := 0) hx hb dX6_in_17 (by decide) ?_
      have hv : 0 = rr := Option.some.inj h
      exact W.zret (v := 0) hx hb hr (by decide) (fun t ht hW => ⟨_, rfl, hv, ht⟩) (fun q hq => absurd hq List.not_mem_nil) dX6_in_18
    · replace h := (if_neg c4).symm.trans h
      refine lv_iconst (v := 1) hx hb dX6_in_13 (by decide) ?_
      refine lv_goto (tgt := 18) hx hb dX6_in_14 (by decide) ?_
      have hv : 1 = rr := Option.some.inj h
      exact W.zret (v := 1) hx hb hr (by decide) (fun t ht hW => ⟨_, rfl, hv, ht⟩) (fun q hq => absurd hq List.not_mem_nil) dX6_in_18
