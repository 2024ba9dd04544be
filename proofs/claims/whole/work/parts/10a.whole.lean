def mX4_leastFactor_b2 (N : Nat) (a0 : Int32) (st : Int32) : Option ((Int32) ⊕ ((Int32) ⊕ (Int32))) :=
  match st with
  | x1 => if x1 = 0 then none else mi_let (a0 / x1) (fun v4 => if v4 < x1 then some (.inr (.inl x1)) else if x1 = 0 then none else mi_let (mi_rem a0 x1) (fun v7 => if v7 = 0 then some (.inr (.inr x1)) else mi_let (x1 + 1) (fun v9 => some (.inl v9))))
def mX4_leastFactor (N : Nat) (a0 : Int32) : Option (Int32) := (mi_run (mX4_leastFactor_b2 N a0) N 2).bind (fun o10 => match o10 with | .inl y2 => some a0 | .inr r11 => some r11)
abbrev rmX4_leastFactor : Room := { frames := 0, cells := 0, slots := 0, locals := 0 }
set_option maxHeartbeats 4000000 in
set_option maxRecDepth 100000 in
theorem ctX4_leastFactor (l : Launch) (N : Nat) (a0 : Int32) (rr : Int32) (h : mX4_leastFactor N a0 = some rr) : Met l yX4_leastFactor wsX4_leastFactor rmX4_leastFactor (fun v _ => v = ([.int a0] : List Value).toArray) (vp_Si (fun r => r = rr)) 0 0 (fun _ => False) := by
  refine Met.ofW (cc := cX4_leastFactor) (maxL := 2) (ret := (some .int)) (by decide) rfl ?_
  intro p e s m args below meth c s₁ B hml hv
  subst hv
  have hx := B.exec
  have hb := B.bytes
  have hr := B.returns
  have hts := atoms_spec (ws := wsX4_leastFactor) B.pre
  have hown : s.vm.findClass RX4 = some m.cls := findClass_of_methodNamed B.named
  have hlocks := B.notSynchronized
  have hl := lv_entry ([.int a0]) (n := 2) (Nat.le_of_ble_eq_true rfl)
  rw [lg_entry_eq]
  generalize (lg_sl ([.int a0]) ++ List.replicate (2 - (lg_sl ([.int a0])).length) Slot.unset).toArray = ls at hl ⊢
  have hl : lv_has ls 2 [(0, .int a0)] := hl
  dsimp only [mX4_leastFactor] at h
  refine lv_iconst (v := 2) hx hb dX4_leastFactor_0 (by decide) ?_
  refine lv_istore_n (lv' := [(1, .int 2), (0, .int a0)]) hx hb dX4_leastFactor_1 rfl hl (by decide) rfl (fun ls hl => ?_)
  have L2 : ∀ (n : Nat) (x1 : Int32) (o : (Int32) ⊕ (Int32)), mi_run (mX4_leastFactor_b2 N a0) n x1 = some o → (∀ (y2 : Int32), o = .inl y2 → ∀ ls, lv_has ls 2 [(1, .int y2), (0, .int a0)] → W p l e (headSpec wsX4_leastFactor rmX4_leastFactor).room s m (([.int a0] : List Value).toArray) below meth c s.heap [] 0 0 (MQ below (vp_Si (fun r => r = rr)) (([.int a0] : List Value).toArray) s 0 0 (fun _ => False)) (F0 m 23 ls [])) → (∀ v : Int32, o = .inr v → v = rr) → ∀ ls, lv_has ls 2 [(1, .int x1), (0, .int a0)] → W p l e (headSpec wsX4_leastFactor rmX4_leastFactor).room s m (([.int a0] : List Value).toArray) below meth c s.heap [] 0 0 (MQ below (vp_Si (fun r => r = rr)) (([.int a0] : List Value).toArray) s 0 0 (fun _ => False)) (F0 m 2 ls []) := by
    intro n
    induction n with
    | zero => intro x1 o h; exact absurd h (mi_run_0 _ _ _)
    | succ n ih =>
      intro x1 o h hkE hkR ls hl
      obtain ⟨w, h, hA, hB⟩ := mi_run_s h
      dsimp only [mX4_leastFactor_b2] at h
      refine lv_iload_n hx hb dX4_leastFactor_2 rfl (lv_at hl 0 rfl) ?_
      refine lv_iload_n hx hb dX4_leastFactor_3 rfl (lv_at hl 1 rfl) ?_
      refine lv_iload_n hx hb dX4_leastFactor_4 rfl (lv_at hl 0 rfl) ?_
      have hn3 : ¬ x1 = 0 := fun hz => absurd ((if_pos hz).symm.trans h) (fun hh => nomatch hh)
      replace h := (if_neg hn3).symm.trans h
      refine lv_idiv hx hb dX4_leastFactor_5 hn3 ?_
      refine lv_topi (fun v4 ev4 => ?_)
      replace h := mi_use ev4 h
      refine lv_icmp_gt (tgt := 23) hx hb dX4_leastFactor_6 (by decide) (fun c5 => ?_) (fun c5 => ?_)
      · replace h := (if_pos c5).symm.trans h
        exact hkE _ (hB _ (Option.some.inj h).symm) ls (lv_sub hl [0, 1] rfl)
      · replace h := (if_neg c5).symm.trans h
        refine lv_iload_n hx hb dX4_leastFactor_9 rfl (lv_at hl 1 rfl) ?_
        refine lv_iload_n hx hb dX4_leastFactor_10 rfl (lv_at hl 0 rfl) ?_
        have hn6 : ¬ x1 = 0 := fun hz => absurd ((if_pos hz).symm.trans h) (fun hh => nomatch hh)
        replace h := (if_neg hn6).symm.trans h
        refine lv_irem hx hb dX4_leastFactor_11 hn6 ?_
        refine lv_topi (fun v7 ev7 => ?_)
        replace h := mi_use ev7 h
        refine lv_if_ne (tgt := 17) hx hb dX4_leastFactor_12 (by decide) (fun c8 => ?_) (fun c8 => ?_)
        · replace h := (if_neg c8).symm.trans h
          obtain ⟨v9, ev9⟩ : ∃ z : Int32, z = x1 + 1 := ⟨_, rfl⟩
          refine lv_iinc (v := v9) (lv' := [(1, .int v9), (0, .int a0)]) hx hb dX4_leastFactor_17 hl (k := 0) rfl (by rw [ev9]; rfl) (by decide) rfl (fun ls hl => ?_)
          replace h := mi_use ev9 h
          refine lv_goto (tgt := 2) hx hb dX4_leastFactor_20 (by decide) ?_
          exact ih _ _ (hA _ (Option.some.inj h).symm) hkE hkR ls (lv_sub hl [0, 1] rfl)
        · replace h := (if_pos c8).symm.trans h
          refine lv_iload_n hx hb dX4_leastFactor_15 rfl (lv_at hl 0 rfl) ?_
          have hv : x1 = rr := hkR _ (hB _ (Option.some.inj h).symm)
          exact W.iret (v := x1) hx hb hr (fun t ht hW => ⟨_, rfl, hv, ht⟩) (fun q hq => absurd hq List.not_mem_nil) dX4_leastFactor_16
  obtain ⟨o10, ho10, h⟩ := Option.bind_eq_some_iff.mp h
  refine L2 N _ o10 ho10 ?_ ?_ ls (lv_sub hl [0, 1] rfl)
  · intro y2 eo ls hl
    subst eo
    try dsimp only at h
    refine lv_iload_n hx hb dX4_leastFactor_23 rfl (lv_at hl 1 rfl) ?_
    have hv : a0 = rr := Option.some.inj h
    exact W.iret (v := a0) hx hb hr (fun t ht hW => ⟨_, rfl, hv, ht⟩) (fun q hq => absurd hq List.not_mem_nil) dX4_leastFactor_24
  · intro r11 eo
    subst eo
    try dsimp only at h
    exact Option.some.inj h
def mX4_isPrime (N : Nat) (a0 : Int32) : Option (Int32) := if a0 < 2 then some 0 else (mX4_leastFactor N a0).bind (fun r2 => if r2 = a0 then some 1 else some 0)
abbrev rmX4_isPrime : Room := { frames := 1, cells := 0, slots := 0, locals := 21 }
set_option maxHeartbeats 4000000 in
set_option maxRecDepth 100000 in
theorem ctX4_isPrime (l : Launch) (N : Nat) (a0 : Int32) (rr : Int32) (h : mX4_isPrime N a0 = some rr) : Met l yX4_isPrime wsX4_isPrime rmX4_isPrime (fun v _ => v = ([.int a0] : List Value).toArray) (vp_Si (fun r => r = rr)) 0 0 (fun _ => False) := by
  refine Met.ofW (cc := cX4_isPrime) (maxL := 1) (ret := (some .boolean)) (by decide) rfl ?_
  intro p e s m args below meth c s₁ B hml hv
  subst hv
  have hx := B.exec
  have hb := B.bytes
  have hr := B.returns
  have hts := atoms_spec (ws := wsX4_isPrime) B.pre
  have hown : s.vm.findClass RX4 = some m.cls := findClass_of_methodNamed B.named
  have hlocks := B.notSynchronized
  have hl := lv_entry ([.int a0]) (n := 1) (Nat.le_of_ble_eq_true rfl)
  rw [lg_entry_eq]
  generalize (lg_sl ([.int a0]) ++ List.replicate (1 - (lg_sl ([.int a0])).length) Slot.unset).toArray = ls at hl ⊢
  have hl : lv_has ls 1 [(0, .int a0)] := hl
  dsimp only [mX4_isPrime] at h
  refine lv_iload_n hx hb dX4_isPrime_0 rfl (lv_at hl 0 rfl) ?_
  refine lv_iconst (v := 2) hx hb dX4_isPrime_1 (by decide) ?_
  refine lv_icmp_lt (tgt := 17) hx hb dX4_isPrime_2 (by decide) (fun c1 => ?_) (fun c1 => ?_)
  · replace h := (if_pos c1).symm.trans h
    refine lv_iconst (v := 0) hx hb dX4_isPrime_17 (by decide) ?_
    have hv : 0 = rr := Option.some.inj h
    exact W.zret (v := 0) hx hb hr (by decide) (fun t ht hW => ⟨_, rfl, hv, ht⟩) (fun q hq => absurd hq List.not_mem_nil) dX4_isPrime_18
  · replace h := (if_neg c1).symm.trans h
    refine lv_iload_n hx hb dX4_isPrime_5 rfl (lv_at hl 0 rfl) ?_
    obtain ⟨r2, hr2, h⟩ := Option.bind_eq_some_iff.mp h
    refine vp_callSi (W.runS (As := [.int a0]) (rest := []) ⟨hx, hb, hml, hown, hts⟩ (ctX4_leastFactor l N  a0 r2 hr2) (va_cwS 1 hts gX4_isPrime_X4_leastFactor rfl rfl rfl (by decide +kernel) ⟨Nat.le_of_ble_eq_true rfl, Nat.le_of_ble_eq_true rfl⟩) preEq rfl rfl hl.1 rfl (lv_room (Nat.le_of_ble_eq_true rfl)) dX4_isPrime_6 ⟨Nat.le_of_ble_eq_true rfl, Nat.le_of_ble_eq_true rfl⟩) (fun q9 eq9 => ?_)
    subst q9
    refine lv_iload_n hx hb dX4_isPrime_9 rfl (lv_at hl 0 rfl) ?_
    refine lv_icmp_ne (tgt := 17) hx hb dX4_isPrime_10 (by decide) (fun c3 => ?_) (fun c3 => ?_)
    · replace h := (if_neg c3).symm.trans h
      refine lv_iconst (v := 0) hx hb dX4_isPrime_17 (by decide) ?_
      have hv : 0 = rr := Option.some.inj h
      exact W.zret (v := 0) hx hb hr (by decide) (fun t ht hW => ⟨_, rfl, hv, ht⟩) (fun q hq => absurd hq List.not_mem_nil) dX4_isPrime_18
    · replace h := (if_pos c3).symm.trans h
      refine lv_iconst (v := 1) hx hb dX4_isPrime_13 (by decide) ?_
      refine lv_goto (tgt := 18) hx hb dX4_isPrime_14 (by decide) ?_
      have hv : 1 = rr := Option.some.inj h
      exact W.zret (v := 1) hx hb hr (by decide) (fun t ht hW => ⟨_, rfl, hv, ht⟩) (fun q hq => absurd hq List.not_mem_nil) dX4_isPrime_18
def mX4_isFieldPrime (N : Nat) (a0 : Int32) : Option (Int32) := if a0 < 5 then some 0 else if 10007 < a0 then some 0 else (mX4_isPrime N a0).bind (fun r3 => if r3 = 0 then some 0 else some 1)
abbrev rmX4_isFieldPrime : Room := { frames := 2, cells := 0, slots := 0, locals := 41 }
set_option maxHeartbeats 4000000 in
set_option maxRecDepth 100000 in
theorem ctX4_isFieldPrime (l : Launch) (N : Nat) (a0 : Int32) (rr : Int32) (h : mX4_isFieldPrime N a0 = some rr) : Met l yX4_isFieldPrime wsX4_isFieldPrime rmX4_isFieldPrime (fun v _ => v = ([.int a0] : List Value).toArray) (vp_Si (fun r => r = rr)) 0 0 (fun _ => False) := by
  refine Met.ofW (cc := cX4_isFieldPrime) (maxL := 1) (ret := (some .boolean)) (by decide) rfl ?_
  intro p e s m args below meth c s₁ B hml hv
  subst hv
  have hx := B.exec
  have hb := B.bytes
  have hr := B.returns
  have hts := atoms_spec (ws := wsX4_isFieldPrime) B.pre
  have hown : s.vm.findClass RX4 = some m.cls := findClass_of_methodNamed B.named
  have hlocks := B.notSynchronized
  have hl := lv_entry ([.int a0]) (n := 1) (Nat.le_of_ble_eq_true rfl)
  rw [lg_entry_eq]
  generalize (lg_sl ([.int a0]) ++ List.replicate (1 - (lg_sl ([.int a0])).length) Slot.unset).toArray = ls at hl ⊢
  have hl : lv_has ls 1 [(0, .int a0)] := hl
  dsimp only [mX4_isFieldPrime] at h
  refine lv_iload_n hx hb dX4_isFieldPrime_0 rfl (lv_at hl 0 rfl) ?_
  refine lv_iconst (v := 5) hx hb dX4_isFieldPrime_1 (by decide) ?_
  refine lv_icmp_lt (tgt := 23) hx hb dX4_isFieldPrime_2 (by decide) (fun c1 => ?_) (fun c1 => ?_)
  · replace h := (if_pos c1).symm.trans h
    refine lv_iconst (v := 0) hx hb dX4_isFieldPrime_23 (by decide) ?_
    have hv : 0 = rr := Option.some.inj h
    exact W.zret (v := 0) hx hb hr (by decide) (fun t ht hW => ⟨_, rfl, hv, ht⟩) (fun q hq => absurd hq List.not_mem_nil) dX4_isFieldPrime_24
  · replace h := (if_neg c1).symm.trans h
    refine lv_iload_n hx hb dX4_isFieldPrime_5 rfl (lv_at hl 0 rfl) ?_
    refine lv_sipush (v := 10007) hx hb dX4_isFieldPrime_6 (by decide) ?_
    refine lv_icmp_gt (tgt := 23) hx hb dX4_isFieldPrime_9 (by decide) (fun c2 => ?_) (fun c2 => ?_)
    · replace h := (if_pos c2).symm.trans h
      refine lv_iconst (v := 0) hx hb dX4_isFieldPrime_23 (by decide) ?_
      have hv : 0 = rr := Option.some.inj h
      exact W.zret (v := 0) hx hb hr (by decide) (fun t ht hW => ⟨_, rfl, hv, ht⟩) (fun q hq => absurd hq List.not_mem_nil) dX4_isFieldPrime_24
    · replace h := (if_neg c2).symm.trans h
      refine lv_iload_n hx hb dX4_isFieldPrime_12 rfl (lv_at hl 0 rfl) ?_
      obtain ⟨r3, hr3, h⟩ := Option.bind_eq_some_iff.mp h
      refine vp_callSi (W.runS (As := [.int a0]) (rest := []) ⟨hx, hb, hml, hown, hts⟩ (ctX4_isPrime l N  a0 r3 hr3) (va_cwS 1 hts gX4_isFieldPrime_X4_isPrime rfl rfl rfl (by decide +kernel) ⟨Nat.le_of_ble_eq_true rfl, Nat.le_of_ble_eq_true rfl⟩) preEq rfl rfl hl.1 rfl (lv_room (Nat.le_of_ble_eq_true rfl)) dX4_isFieldPrime_13 ⟨Nat.le_of_ble_eq_true rfl, Nat.le_of_ble_eq_true rfl⟩) (fun q9 eq9 => ?_)
      subst q9
      refine lv_if_eq (tgt := 23) hx hb dX4_isFieldPrime_16 (by decide) (fun c4 => ?_) (fun c4 => ?_)
      · replace h := (if_pos c4).symm.trans h
        refine lv_iconst (v := 0) hx hb dX4_isFieldPrime_23 (by decide) ?_
        have hv : 0 = rr := Option.some.inj h
        exact W.zret (v := 0) hx hb hr (by decide) (fun t ht hW => ⟨_, rfl, hv, ht⟩) (fun q hq => absurd hq List.not_mem_nil) dX4_isFieldPrime_24
      · replace h := (if_neg c4).symm.trans h
        refine lv_iconst (v := 1) hx hb dX4_isFieldPrime_19 (by decide) ?_
        refine lv_goto (tgt := 24) hx hb dX4_isFieldPrime_20 (by decide) ?_
        have hv : 1 = rr := Option.some.inj h
        exact W.zret (v := 1) hx hb hr (by decide) (fun t ht hW => ⟨_, rfl, hv, ht⟩) (fun q hq => absurd hq List.not_mem_nil) dX4_isFieldPrime_24
def mX4_isBelow (N : Nat) (a0 : Int32) (a1 : Int32) : Option (Int32) := if a0 < 0 then some 0 else if a1 ≤ a0 then some 0 else some 1
abbrev rmX4_isBelow : Room := { frames := 0, cells := 0, slots := 0, locals := 0 }
set_option maxHeartbeats 4000000 in
set_option maxRecDepth 100000 in
theorem ctX4_isBelow (l : Launch) (N : Nat) (a0 : Int32) (a1 : Int32) (rr : Int32) (h : mX4_isBelow N a0 a1 = some rr) : Met l yX4_isBelow wsX4_isBelow rmX4_isBelow (fun v _ => v = ([.int a0, .int a1] : List Value).toArray) (vp_Si (fun r => r = rr)) 0 0 (fun _ => False) := by
  refine Met.ofW (cc := cX4_isBelow) (maxL := 2) (ret := (some .boolean)) (by decide) rfl ?_
  intro p e s m args below meth c s₁ B hml hv
  subst hv
  have hx := B.exec
  have hb := B.bytes
  have hr := B.returns
  have hts := atoms_spec (ws := wsX4_isBelow) B.pre
  have hown : s.vm.findClass RX4 = some m.cls := findClass_of_methodNamed B.named
  have hlocks := B.notSynchronized
  have hl := lv_entry ([.int a0, .int a1]) (n := 2) (Nat.le_of_ble_eq_true rfl)
  rw [lg_entry_eq]
  generalize (lg_sl ([.int a0, .int a1]) ++ List.replicate (2 - (lg_sl ([.int a0, .int a1])).length) Slot.unset).toArray = ls at hl ⊢
  have hl : lv_has ls 2 [(0, .int a0), (1, .int a1)] := hl
  dsimp only [mX4_isBelow] at h
  refine lv_iload_n hx hb dX4_isBelow_0 rfl (lv_at hl 0 rfl) ?_
  refine lv_if_lt (tgt := 13) hx hb dX4_isBelow_1 (by decide) (fun c1 => ?_) (fun c1 => ?_)
  · replace h := (if_pos c1).symm.trans h
    refine lv_iconst (v := 0) hx hb dX4_isBelow_13 (by decide) ?_
    have hv : 0 = rr := Option.some.inj h
    exact W.zret (v := 0) hx hb hr (by decide) (fun t ht hW => ⟨_, rfl, hv, ht⟩) (fun q hq => absurd hq List.not_mem_nil) dX4_isBelow_14
  · replace h := (if_neg c1).symm.trans h
    refine lv_iload_n hx hb dX4_isBelow_4 rfl (lv_at hl 0 rfl) ?_
    refine lv_iload_n hx hb dX4_isBelow_5 rfl (lv_at hl 1 rfl) ?_
    refine lv_icmp_ge (tgt := 13) hx hb dX4_isBelow_6 (by decide) (fun c2 => ?_) (fun c2 => ?_)
    · replace h := (if_pos c2).symm.trans h
      refine lv_iconst (v := 0) hx hb dX4_isBelow_13 (by decide) ?_
      have hv : 0 = rr := Option.some.inj h
      exact W.zret (v := 0) hx hb hr (by decide) (fun t ht hW => ⟨_, rfl, hv, ht⟩) (fun q hq => absurd hq List.not_mem_nil) dX4_isBelow_14
    · replace h := (if_neg c2).symm.trans h
      refine lv_iconst (v := 1) hx hb dX4_isBelow_9 (by decide) ?_
      refine lv_goto (tgt := 14) hx hb dX4_isBelow_10 (by decide) ?_
      have hv : 1 = rr := Option.some.inj h
      exact W.zret (v := 1) hx hb hr (by decide) (fun t ht hW => ⟨_, rfl, hv, ht⟩) (fun q hq => absurd hq List.not_mem_nil) dX4_isBelow_14
def mX4_cubicMark (N : Nat) (a0 : Int32) (a1 : Int32) (a2 : Int32) : Option (Int32) := if a2 = 0 then none else mi_let (mi_rem (a0 * a0) a2) (fun v2 => if a2 = 0 then none else mi_let (mi_rem ((4 * v2) * a0) a2) (fun v4 => if a2 = 0 then none else mi_let (mi_rem (a1 * a1) a2) (fun v6 => if a2 = 0 then none else mi_let (mi_rem (v4 + (27 * v6)) a2) (fun v8 => some v8))))
abbrev rmX4_cubicMark : Room := { frames := 0, cells := 0, slots := 0, locals := 0 }
set_option maxHeartbeats 4000000 in
set_option maxRecDepth 100000 in
theorem ctX4_cubicMark (l : Launch) (N : Nat) (a0 : Int32) (a1 : Int32) (a2 : Int32) (rr : Int32) (h : mX4_cubicMark N a0 a1 a2 = some rr) : Met l yX4_cubicMark wsX4_cubicMark rmX4_cubicMark (fun v _ => v = ([.int a0, .int a1, .int a2] : List Value).toArray) (vp_Si (fun r => r = rr)) 0 0 (fun _ => False) := by
  refine Met.ofW (cc := cX4_cubicMark) (maxL := 3) (ret := (some .int)) (by decide) rfl ?_
  intro p e s m args below meth c s₁ B hml hv
  subst hv
  have hx := B.exec
  have hb := B.bytes
  have hr := B.returns
  have hts := atoms_spec (ws := wsX4_cubicMark) B.pre
  have hown : s.vm.findClass RX4 = some m.cls := findClass_of_methodNamed B.named
  have hlocks := B.notSynchronized
  have hl := lv_entry ([.int a0, .int a1, .int a2]) (n := 3) (Nat.le_of_ble_eq_true rfl)
  rw [lg_entry_eq]
  generalize (lg_sl ([.int a0, .int a1, .int a2]) ++ List.replicate (3 - (lg_sl ([.int a0, .int a1, .int a2])).length) Slot.unset).toArray = ls at hl ⊢
  have hl : lv_has ls 3 [(0, .int a0), (1, .int a1), (2, .int a2)] := hl
  dsimp only [mX4_cubicMark] at h
  refine lv_iconst (v := 4) hx hb dX4_cubicMark_0 (by decide) ?_
  refine lv_iload_n hx hb dX4_cubicMark_1 rfl (lv_at hl 0 rfl) ?_
  refine lv_iload_n hx hb dX4_cubicMark_2 rfl (lv_at hl 0 rfl) ?_
  refine lv_imul hx hb dX4_cubicMark_3 ?_
  refine lv_iload_n hx hb dX4_cubicMark_4 rfl (lv_at hl 2 rfl) ?_
  have hn1 : ¬ a2 = 0 := fun hz => absurd ((if_pos hz).symm.trans h) (fun hh => nomatch hh)
  replace h := (if_neg hn1).symm.trans h
  refine lv_irem hx hb dX4_cubicMark_5 hn1 ?_
  refine lv_topi (fun v2 ev2 => ?_)
  replace h := mi_use ev2 h
  refine lv_imul hx hb dX4_cubicMark_6 ?_
  refine lv_iload_n hx hb dX4_cubicMark_7 rfl (lv_at hl 0 rfl) ?_
  refine lv_imul hx hb dX4_cubicMark_8 ?_
  refine lv_iload_n hx hb dX4_cubicMark_9 rfl (lv_at hl 2 rfl) ?_
  have hn3 : ¬ a2 = 0 := fun hz => absurd ((if_pos hz).symm.trans h) (fun hh => nomatch hh)
  replace h := (if_neg hn3).symm.trans h
  refine lv_irem hx hb dX4_cubicMark_10 hn3 ?_
  refine lv_topi (fun v4 ev4 => ?_)
  replace h := mi_use ev4 h
  refine lv_bipush (v := 27) hx hb dX4_cubicMark_11 (by decide) ?_
  refine lv_iload_n hx hb dX4_cubicMark_13 rfl (lv_at hl 1 rfl) ?_
  refine lv_iload_n hx hb dX4_cubicMark_14 rfl (lv_at hl 1 rfl) ?_
  refine lv_imul hx hb dX4_cubicMark_15 ?_
  refine lv_iload_n hx hb dX4_cubicMark_16 rfl (lv_at hl 2 rfl) ?_
  have hn5 : ¬ a2 = 0 := fun hz => absurd ((if_pos hz).symm.trans h) (fun hh => nomatch hh)
  replace h := (if_neg hn5).symm.trans h
  refine lv_irem hx hb dX4_cubicMark_17 hn5 ?_
  refine lv_topi (fun v6 ev6 => ?_)
  replace h := mi_use ev6 h
  refine lv_imul hx hb dX4_cubicMark_18 ?_
  refine lv_iadd hx hb dX4_cubicMark_19 ?_
  refine lv_iload_n hx hb dX4_cubicMark_20 rfl (lv_at hl 2 rfl) ?_
  have hn7 : ¬ a2 = 0 := fun hz => absurd ((if_pos hz).symm.trans h) (fun hh => nomatch hh)
  replace h := (if_neg hn7).symm.trans h
  refine lv_irem hx hb dX4_cubicMark_21 hn7 ?_
  refine lv_topi (fun v8 ev8 => ?_)
  replace h := mi_use ev8 h
  have hv : v8 = rr := Option.some.inj h
  exact W.iret (v := v8) hx hb hr (fun t ht hW => ⟨_, rfl, hv, ht⟩) (fun q hq => absurd hq List.not_mem_nil) dX4_cubicMark_22
