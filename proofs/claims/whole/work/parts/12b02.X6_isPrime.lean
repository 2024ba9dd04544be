def mX6_isPrime_b13 (N : Nat) (a0 : Int32) (st : Int32 × Int32) : Option ((Int32 × Int32) ⊕ (Int32 × Int32)) :=
  match st with
  | (x2, x3) => if a0 < (x3 * x3) then some (.inr (x2, x3)) else if x2 = 0 then some (.inr (x2, x3)) else if x3 = 0 then none else mi_let (mi_rem a0 x3) (fun v9 => if v9 = 0 then mi_let (x3 + 1) (fun v11 => some (.inl (0, v11))) else mi_let (x3 + 1) (fun v12 => some (.inl (1, v12))))
def mX6_isPrime (N : Nat) (a0 : Int32) : Option (Int32) := if a0 ≤ 1 then (mi_run (mX6_isPrime_b13 N a0) N (0, 2)).bind (fun o13 => match o13 with | (y4, y5) => if vp_nar .boolean y4 = y4 then some y4 else none) else (mi_run (mX6_isPrime_b13 N a0) N (1, 2)).bind (fun o26 => match o26 with | (y17, y18) => if vp_nar .boolean y17 = y17 then some y17 else none)
abbrev rmX6_isPrime : Room := { frames := 0, cells := 0, slots := 0, locals := 0 }
set_option maxHeartbeats 4000000 in
set_option maxRecDepth 100000 in
theorem ctX6_isPrime (l : Launch) (N : Nat) (a0 : Int32) (rr : Int32) (h : mX6_isPrime N a0 = some rr) : Met l yX6_isPrime wsX6_isPrime rmX6_isPrime (fun v _ => v = ([.int a0] : List Value).toArray) (vp_Si (fun r => r = rr)) 0 0 (fun _ => False) := by
  refine Met.ofW (cc := cX6_isPrime) (maxL := 3) (ret := (some .boolean)) (by decide) rfl ?_
  intro p e s m args below meth c s₁ B hml hv
  subst hv
  have hx := B.exec
  have hb := B.bytes
  have hr := B.returns
  have hts := atoms_spec (ws := wsX6_isPrime) B.pre
  have hown : s.vm.findClass RX6 = some m.cls := findClass_of_methodNamed B.named
  have hlocks := B.notSynchronized
  have hl := lv_entry ([.int a0]) (n := 3) (Nat.le_of_ble_eq_true rfl)
  rw [lg_entry_eq]
  generalize (lg_sl ([.int a0]) ++ List.replicate (3 - (lg_sl ([.int a0])).length) Slot.unset).toArray = ls at hl ⊢
  have hl : lv_has ls 3 [(0, .int a0)] := hl
  dsimp only [mX6_isPrime] at h
  refine lv_iload_n hx hb dX6_isPrime_0 rfl (lv_at hl 0 rfl) ?_
  refine lv_iconst (v := 1) hx hb dX6_isPrime_1 (by decide) ?_
  refine lv_icmp_le (tgt := 9) hx hb dX6_isPrime_2 (by decide) (fun c1 => ?_) (fun c1 => ?_)
  · replace h := (if_pos c1).symm.trans h
    refine lv_iconst (v := 0) hx hb dX6_isPrime_9 (by decide) ?_
    refine lv_istore_n (lv' := [(1, .int 0), (0, .int a0)]) hx hb dX6_isPrime_10 rfl hl (by decide) rfl (fun ls hl => ?_)
    refine lv_iconst (v := 2) hx hb dX6_isPrime_11 (by decide) ?_
    refine lv_istore_n (lv' := [(2, .int 2), (1, .int 0), (0, .int a0)]) hx hb dX6_isPrime_12 rfl hl (by decide) rfl (fun ls hl => ?_)
    have L13 : ∀ (n : Nat) (x2 : Int32) (x3 : Int32) (o : Int32 × Int32), mi_run (mX6_isPrime_b13 N a0) n (x2, x3) = some o → (∀ (y4 : Int32) (y5 : Int32), o = (y4, y5) → ∀ ls, lv_has ls 3 [(1, .int y4), (2, .int y5), (0, .int a0)] → W p l e (headSpec wsX6_isPrime rmX6_isPrime).room s m (([.int a0] : List Value).toArray) below meth c s.heap [] 0 0 (MQ below (vp_Si (fun r => r = rr)) (([.int a0] : List Value).toArray) s 0 0 (fun _ => False)) (F0 m 42 ls [])) → ∀ ls, lv_has ls 3 [(1, .int x2), (2, .int x3), (0, .int a0)] → W p l e (headSpec wsX6_isPrime rmX6_isPrime).room s m (([.int a0] : List Value).toArray) below meth c s.heap [] 0 0 (MQ below (vp_Si (fun r => r = rr)) (([.int a0] : List Value).toArray) s 0 0 (fun _ => False)) (F0 m 13 ls []) := by
      intro n
      induction n with
      | zero => intro x2 x3 o h; exact absurd h (mi_run_0 _ _ _)
      | succ n ih =>
        intro x2 x3 o h hkE ls hl
        obtain ⟨w, h, hA, hB⟩ := mi_run_s h
        dsimp only [mX6_isPrime_b13] at h
        refine lv_iload_n hx hb dX6_isPrime_13 rfl (lv_at hl 1 rfl) ?_
        refine lv_iload_n hx hb dX6_isPrime_14 rfl (lv_at hl 1 rfl) ?_
        refine lv_imul hx hb dX6_isPrime_15 ?_
        refine lv_iload_n hx hb dX6_isPrime_16 rfl (lv_at hl 2 rfl) ?_
        refine lv_icmp_gt (tgt := 42) hx hb dX6_isPrime_17 (by decide) (fun c6 => ?_) (fun c6 => ?_)
        · replace h := (if_pos c6).symm.trans h
          exact hkE _ _ (hB _ (Option.some.inj h).symm) ls (lv_sub hl [0, 1, 2] rfl)
        · replace h := (if_neg c6).symm.trans h
          refine lv_iload_n hx hb dX6_isPrime_20 rfl (lv_at hl 0 rfl) ?_
          refine lv_if_eq (tgt := 42) hx hb dX6_isPrime_21 (by decide) (fun c7 => ?_) (fun c7 => ?_)
          · replace h := (if_pos c7).symm.trans h
            exact hkE _ _ (hB _ (Option.some.inj h).symm) ls (lv_sub hl [0, 1, 2] rfl)
          · replace h := (if_neg c7).symm.trans h
            refine lv_iload_n hx hb dX6_isPrime_24 rfl (lv_at hl 2 rfl) ?_
            refine lv_iload_n hx hb dX6_isPrime_25 rfl (lv_at hl 1 rfl) ?_
            have hn8 : ¬ x3 = 0 := fun hz => absurd ((if_pos hz).symm.trans h) (fun hh => nomatch hh)
            replace h := (if_neg hn8).symm.trans h
            refine lv_irem hx hb dX6_isPrime_26 hn8 ?_
            refine lv_topi (fun v9 ev9 => ?_)
            replace h := mi_use ev9 h
            refine lv_if_eq (tgt := 34) hx hb dX6_isPrime_27 (by decide) (fun c10 => ?_) (fun c10 => ?_)
            · replace h := (if_pos c10).symm.trans h
              refine lv_iconst (v := 0) hx hb dX6_isPrime_34 (by decide) ?_
              refine lv_istore_n (lv' := [(1, .int 0), (2, .int x3), (0, .int a0)]) hx hb dX6_isPrime_35 rfl hl (by decide) rfl (fun ls hl => ?_)
              obtain ⟨v11, ev11⟩ : ∃ z : Int32, z = x3 + 1 := ⟨_, rfl⟩
              refine lv_iinc (v := v11) (lv' := [(2, .int v11), (1, .int 0), (0, .int a0)]) hx hb dX6_isPrime_36 hl (k := 1) rfl (by rw [ev11]; rfl) (by decide) rfl (fun ls hl => ?_)
              replace h := mi_use ev11 h
              refine lv_goto (tgt := 13) hx hb dX6_isPrime_39 (by decide) ?_
              exact ih _ _ _ (hA _ (Option.some.inj h).symm) hkE ls (lv_sub hl [1, 0, 2] rfl)
            · replace h := (if_neg c10).symm.trans h
              refine lv_iconst (v := 1) hx hb dX6_isPrime_30 (by decide) ?_
              refine lv_goto (tgt := 35) hx hb dX6_isPrime_31 (by decide) ?_
              refine lv_istore_n (lv' := [(1, .int 1), (2, .int x3), (0, .int a0)]) hx hb dX6_isPrime_35 rfl hl (by decide) rfl (fun ls hl => ?_)
              obtain ⟨v12, ev12⟩ : ∃ z : Int32, z = x3 + 1 := ⟨_, rfl⟩
              refine lv_iinc (v := v12) (lv' := [(2, .int v12), (1, .int 1), (0, .int a0)]) hx hb dX6_isPrime_36 hl (k := 1) rfl (by rw [ev12]; rfl) (by decide) rfl (fun ls hl => ?_)
              replace h := mi_use ev12 h
              refine lv_goto (tgt := 13) hx hb dX6_isPrime_39 (by decide) ?_
              exact ih _ _ _ (hA _ (Option.some.inj h).symm) hkE ls (lv_sub hl [1, 0, 2] rfl)
    obtain ⟨o13, ho13, h⟩ := Option.bind_eq_some_iff.mp h
    refine L13 N _ _ o13 ho13 ?_ ls (lv_sub hl [1, 0, 2] rfl)
    intro y4 y5 eo ls hl
    subst eo
    try dsimp only at h
    refine lv_iload_n hx hb dX6_isPrime_42 rfl (lv_at hl 0 rfl) ?_
    have hz14 : vp_nar .boolean y4 = y4 := Decidable.byContradiction (fun hz => absurd ((if_neg hz).symm.trans h) (fun hh => nomatch hh))
    replace h := (if_pos hz14).symm.trans h
    have hv : y4 = rr := Option.some.inj h
    exact W.zret (v := y4) hx hb hr (mi_zn hz14) (fun t ht hW => ⟨_, rfl, hv, ht⟩) (fun q hq => absurd hq List.not_mem_nil) dX6_isPrime_43
  · replace h := (if_neg c1).symm.trans h
    refine lv_iconst (v := 1) hx hb dX6_isPrime_5 (by decide) ?_
    refine lv_goto (tgt := 10) hx hb dX6_isPrime_6 (by decide) ?_
    refine lv_istore_n (lv' := [(1, .int 1), (0, .int a0)]) hx hb dX6_isPrime_10 rfl hl (by decide) rfl (fun ls hl => ?_)
    refine lv_iconst (v := 2) hx hb dX6_isPrime_11 (by decide) ?_
    refine lv_istore_n (lv' := [(2, .int 2), (1, .int 1), (0, .int a0)]) hx hb dX6_isPrime_12 rfl hl (by decide) rfl (fun ls hl => ?_)
    have L13 : ∀ (n : Nat) (x15 : Int32) (x16 : Int32) (o : Int32 × Int32), mi_run (mX6_isPrime_b13 N a0) n (x15, x16) = some o → (∀ (y17 : Int32) (y18 : Int32), o = (y17, y18) → ∀ ls, lv_has ls 3 [(1, .int y17), (2, .int y18), (0, .int a0)] → W p l e (headSpec wsX6_isPrime rmX6_isPrime).room s m (([.int a0] : List Value).toArray) below meth c s.heap [] 0 0 (MQ below (vp_Si (fun r => r = rr)) (([.int a0] : List Value).toArray) s 0 0 (fun _ => False)) (F0 m 42 ls [])) → ∀ ls, lv_has ls 3 [(1, .int x15), (2, .int x16), (0, .int a0)] → W p l e (headSpec wsX6_isPrime rmX6_isPrime).room s m (([.int a0] : List Value).toArray) below meth c s.heap [] 0 0 (MQ below (vp_Si (fun r => r = rr)) (([.int a0] : List Value).toArray) s 0 0 (fun _ => False)) (F0 m 13 ls []) := by
      intro n
      induction n with
      | zero => intro x15 x16 o h; exact absurd h (mi_run_0 _ _ _)
      | succ n ih =>
        intro x15 x16 o h hkE ls hl
        obtain ⟨w, h, hA, hB⟩ := mi_run_s h
        dsimp only [mX6_isPrime_b13] at h
        refine lv_iload_n hx hb dX6_isPrime_13 rfl (lv_at hl 1 rfl) ?_
        refine lv_iload_n hx hb dX6_isPrime_14 rfl (lv_at hl 1 rfl) ?_
        refine lv_imul hx hb dX6_isPrime_15 ?_
        refine lv_iload_n hx hb dX6_isPrime_16 rfl (lv_at hl 2 rfl) ?_
        refine lv_icmp_gt (tgt := 42) hx hb dX6_isPrime_17 (by decide) (fun c19 => ?_) (fun c19 => ?_)
        · replace h := (if_pos c19).symm.trans h
          exact hkE _ _ (hB _ (Option.some.inj h).symm) ls (lv_sub hl [0, 1, 2] rfl)
        · replace h := (if_neg c19).symm.trans h
          refine lv_iload_n hx hb dX6_isPrime_20 rfl (lv_at hl 0 rfl) ?_
          refine lv_if_eq (tgt := 42) hx hb dX6_isPrime_21 (by decide) (fun c20 => ?_) (fun c20 => ?_)
          · replace h := (if_pos c20).symm.trans h
            exact hkE _ _ (hB _ (Option.some.inj h).symm) ls (lv_sub hl [0, 1, 2] rfl)
          · replace h := (if_neg c20).symm.trans h
            refine lv_iload_n hx hb dX6_isPrime_24 rfl (lv_at hl 2 rfl) ?_
            refine lv_iload_n hx hb dX6_isPrime_25 rfl (lv_at hl 1 rfl) ?_
            have hn21 : ¬ x16 = 0 := fun hz => absurd ((if_pos hz).symm.trans h) (fun hh => nomatch hh)
            replace h := (if_neg hn21).symm.trans h
            refine lv_irem hx hb dX6_isPrime_26 hn21 ?_
            refine lv_topi (fun v22 ev22 => ?_)
            replace h := mi_use ev22 h
            refine lv_if_eq (tgt := 34) hx hb dX6_isPrime_27 (by decide) (fun c23 => ?_) (fun c23 => ?_)
            · replace h := (if_pos c23).symm.trans h
              refine lv_iconst (v := 0) hx hb dX6_isPrime_34 (by decide) ?_
              refine lv_istore_n (lv' := [(1, .int 0), (2, .int x16), (0, .int a0)]) hx hb dX6_isPrime_35 rfl hl (by decide) rfl (fun ls hl => ?_)
              obtain ⟨v24, ev24⟩ : ∃ z : Int32, z = x16 + 1 := ⟨_, rfl⟩
              refine lv_iinc (v := v24) (lv' := [(2, .int v24), (1, .int 0), (0, .int a0)]) hx hb dX6_isPrime_36 hl (k := 1) rfl (by rw [ev24]; rfl) (by decide) rfl (fun ls hl => ?_)
              replace h := mi_use ev24 h
              refine lv_goto (tgt := 13) hx hb dX6_isPrime_39 (by decide) ?_
              exact ih _ _ _ (hA _ (Option.some.inj h).symm) hkE ls (lv_sub hl [1, 0, 2] rfl)
            · replace h := (if_neg c23).symm.trans h
              refine lv_iconst (v := 1) hx hb dX6_isPrime_30 (by decide) ?_
              refine lv_goto (tgt := 35) hx hb dX6_isPrime_31 (by decide) ?_
              refine lv_istore_n (lv' := [(1, .int 1), (2, .int x16), (0, .int a0)]) hx hb dX6_isPrime_35 rfl hl (by decide) rfl (fun ls hl => ?_)
              obtain ⟨v25, ev25⟩ : ∃ z : Int32, z = x16 + 1 := ⟨_, rfl⟩
              refine lv_iinc (v := v25) (lv' := [(2, .int v25), (1, .int 1), (0, .int a0)]) hx hb dX6_isPrime_36 hl (k := 1) rfl (by rw [ev25]; rfl) (by decide) rfl (fun ls hl => ?_)
              replace h := mi_use ev25 h
              refine lv_goto (tgt := 13) hx hb dX6_isPrime_39 (by decide) ?_
              exact ih _ _ _ (hA _ (Option.some.inj h).symm) hkE ls (lv_sub hl [1, 0, 2] rfl)
    obtain ⟨o26, ho26, h⟩ := Option.bind_eq_some_iff.mp h
    refine L13 N _ _ o26 ho26 ?_ ls (lv_sub hl [1, 0, 2] rfl)
    intro y17 y18 eo ls hl
    subst eo
    try dsimp only at h
    refine lv_iload_n hx hb dX6_isPrime_42 rfl (lv_at hl 0 rfl) ?_
    have hz27 : vp_nar .boolean y17 = y17 := Decidable.byContradiction (fun hz => absurd ((if_neg hz).symm.trans h) (fun hh => nomatch hh))
    replace h := (if_pos hz27).symm.trans h
    have hv : y17 = rr := Option.some.inj h
    exact W.zret (v := y17) hx hb hr (mi_zn hz27) (fun t ht hW => ⟨_, rfl, hv, ht⟩) (fun q hq => absurd hq List.not_mem_nil) dX6_isPrime_43
