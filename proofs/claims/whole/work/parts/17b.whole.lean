def mX4_partOf_b7 (N : Nat) (a1 : Int32) (st : Int32 × Int32 × Int32) : Option ((Int32 × Int32 × Int32) ⊕ (Int32 × Int32 × Int32)) :=
  match st with
  | (x1, x2, x3) => if 32 ≤ x3 then some (.inr (x1, x2, x3)) else if x2 ≤ 1 then some (.inr (x1, x2, x3)) else if a1 ≤ 1 then some (.inr (x1, x2, x3)) else if a1 = 0 then none else mi_let (mi_rem x2 a1) (fun v11 => if v11 = 0 then if a1 = 0 then none else mi_let (x2 / a1) (fun v14 => mi_let (x1 * a1) (fun v15 => mi_let (x3 + 1) (fun v16 => some (.inl (v15, v14, v16))))) else some (.inr (x1, x2, x3)))
def mX4_partOf (N : Nat) (a0 : Int32) (a1 : Int32) : Option (Int32) := (mi_run (mX4_partOf_b7 N a1) N (1, a0, 0)).bind (fun o17 => match o17 with | (y4, y5, y6) => some y4)
abbrev rmX4_partOf : Room := { frames := 0, cells := 0, slots := 0, locals := 0 }
set_option maxHeartbeats 4000000 in
set_option maxRecDepth 100000 in
theorem ctX4_partOf (l : Launch) (N : Nat) (a0 : Int32) (a1 : Int32) (rr : Int32) (h : mX4_partOf N a0 a1 = some rr) : Met l yX4_partOf wsX4_partOf rmX4_partOf (fun v _ => v = ([.int a0, .int a1] : List Value).toArray) (vp_Si (fun r => r = rr)) 0 0 (fun _ => False) := by
  refine Met.ofW (cc := cX4_partOf) (maxL := 5) (ret := (some .int)) (by decide) rfl ?_
  intro p e s m args below meth c s₁ B hml hv
  subst hv
  have hx := B.exec
  have hb := B.bytes
  have hr := B.returns
  have hts := atoms_spec (ws := wsX4_partOf) B.pre
  have hown : s.vm.findClass RX4 = some m.cls := findClass_of_methodNamed B.named
  have hlocks := B.notSynchronized
  have hl := lv_entry ([.int a0, .int a1]) (n := 5) (Nat.le_of_ble_eq_true rfl)
  rw [lg_entry_eq]
  generalize (lg_sl ([.int a0, .int a1]) ++ List.replicate (5 - (lg_sl ([.int a0, .int a1])).length) Slot.unset).toArray = ls at hl ⊢
  have hl : lv_has ls 5 [(0, .int a0), (1, .int a1)] := hl
  dsimp only [mX4_partOf] at h
  refine lv_iconst (v := 1) hx hb dX4_partOf_0 (by decide) ?_
  refine lv_istore_n (lv' := [(2, .int 1), (0, .int a0), (1, .int a1)]) hx hb dX4_partOf_1 rfl hl (by decide) rfl (fun ls hl => ?_)
  refine lv_iload_n hx hb dX4_partOf_2 rfl (lv_at hl 1 rfl) ?_
  refine lv_istore_n (lv' := [(3, .int a0), (2, .int 1), (0, .int a0), (1, .int a1)]) hx hb dX4_partOf_3 rfl hl (by decide) rfl (fun ls hl => ?_)
  refine lv_iconst (v := 0) hx hb dX4_partOf_4 (by decide) ?_
  refine lv_istore (lv' := [(4, .int 0), (3, .int a0), (2, .int 1), (0, .int a0), (1, .int a1)]) hx hb dX4_partOf_5 hl (by decide) rfl (fun ls hl => ?_)
  have L7 : ∀ (n : Nat) (x1 : Int32) (x2 : Int32) (x3 : Int32) (o : Int32 × Int32 × Int32), mi_run (mX4_partOf_b7 N a1) n (x1, x2, x3) = some o → (∀ (y4 : Int32) (y5 : Int32) (y6 : Int32), o = (y4, y5, y6) → ∀ ls, lv_has ls 5 [(2, .int y4), (3, .int y5), (4, .int y6), (0, .int a0), (1, .int a1)] → W p l e (headSpec wsX4_partOf rmX4_partOf).room s m (([.int a0, .int a1] : List Value).toArray) below meth c s.heap [] 0 0 (MQ below (vp_Si (fun r => r = rr)) (([.int a0, .int a1] : List Value).toArray) s 0 0 (fun _ => False)) (F0 m 44 ls [])) → ∀ ls, lv_has ls 5 [(2, .int x1), (3, .int x2), (4, .int x3), (0, .int a0), (1, .int a1)] → W p l e (headSpec wsX4_partOf rmX4_partOf).room s m (([.int a0, .int a1] : List Value).toArray) below meth c s.heap [] 0 0 (MQ below (vp_Si (fun r => r = rr)) (([.int a0, .int a1] : List Value).toArray) s 0 0 (fun _ => False)) (F0 m 7 ls []) := by
    intro n
    induction n with
    | zero => intro x1 x2 x3 o h; exact absurd h (mi_run_0 _ _ _)
    | succ n ih =>
      intro x1 x2 x3 o h hkE ls hl
      obtain ⟨w, h, hA, hB⟩ := mi_run_s h
      dsimp only [mX4_partOf_b7] at h
      refine lv_iload hx hb dX4_partOf_7 (lv_at hl 2 rfl) ?_
      refine lv_bipush (v := 32) hx hb dX4_partOf_9 (by decide) ?_
      refine lv_icmp_ge (tgt := 44) hx hb dX4_partOf_11 (by decide) (fun c7 => ?_) (fun c7 => ?_)
      · replace h := (if_pos c7).symm.trans h
        exact hkE _ _ _ (hB _ (Option.some.inj h).symm) ls (lv_sub hl [0, 1, 2, 3, 4] rfl)
      · replace h := (if_neg c7).symm.trans h
        refine lv_iload_n hx hb dX4_partOf_14 rfl (lv_at hl 1 rfl) ?_
        refine lv_iconst (v := 1) hx hb dX4_partOf_15 (by decide) ?_
        refine lv_icmp_le (tgt := 44) hx hb dX4_partOf_16 (by decide) (fun c8 => ?_) (fun c8 => ?_)
        · replace h := (if_pos c8).symm.trans h
          exact hkE _ _ _ (hB _ (Option.some.inj h).symm) ls (lv_sub hl [0, 1, 2, 3, 4] rfl)
        · replace h := (if_neg c8).symm.trans h
          refine lv_iload_n hx hb dX4_partOf_19 rfl (lv_at hl 4 rfl) ?_
          refine lv_iconst (v := 1) hx hb dX4_partOf_20 (by decide) ?_
          refine lv_icmp_le (tgt := 44) hx hb dX4_partOf_21 (by decide) (fun c9 => ?_) (fun c9 => ?_)
          · replace h := (if_pos c9).symm.trans h
            exact hkE _ _ _ (hB _ (Option.some.inj h).symm) ls (lv_sub hl [0, 1, 2, 3, 4] rfl)
          · replace h := (if_neg c9).symm.trans h
            refine lv_iload_n hx hb dX4_partOf_24 rfl (lv_at hl 1 rfl) ?_
            refine lv_iload_n hx hb dX4_partOf_25 rfl (lv_at hl 4 rfl) ?_
            have hn10 : ¬ a1 = 0 := fun hz => absurd ((if_pos hz).symm.trans h) (fun hh => nomatch hh)
            replace h := (if_neg hn10).symm.trans h
            refine lv_irem hx hb dX4_partOf_26 hn10 ?_
            refine lv_topi (fun v11 ev11 => ?_)
            replace h := mi_use ev11 h
            refine lv_if_ne (tgt := 44) hx hb dX4_partOf_27 (by decide) (fun c12 => ?_) (fun c12 => ?_)
            · replace h := (if_neg c12).symm.trans h
              exact hkE _ _ _ (hB _ (Option.some.inj h).symm) ls (lv_sub hl [0, 1, 2, 3, 4] rfl)
            · replace h := (if_pos c12).symm.trans h
              refine lv_iload_n hx hb dX4_partOf_30 rfl (lv_at hl 1 rfl) ?_
              refine lv_iload_n hx hb dX4_partOf_31 rfl (lv_at hl 4 rfl) ?_
              have hn13 : ¬ a1 = 0 := fun hz => absurd ((if_pos hz).symm.trans h) (fun hh => nomatch hh)
              replace h := (if_neg hn13).symm.trans h
              refine lv_idiv hx hb dX4_partOf_32 hn13 ?_
              refine lv_topi (fun v14 ev14 => ?_)
              replace h := mi_use ev14 h
              refine lv_istore_n (lv' := [(3, .int v14), (2, .int x1), (4, .int x3), (0, .int a0), (1, .int a1)]) hx hb dX4_partOf_33 rfl hl (by decide) rfl (fun ls hl => ?_)
              refine lv_iload_n hx hb dX4_partOf_34 rfl (lv_at hl 1 rfl) ?_
              refine lv_iload_n hx hb dX4_partOf_35 rfl (lv_at hl 4 rfl) ?_
              refine lv_imul hx hb dX4_partOf_36 ?_
              refine lv_topi (fun v15 ev15 => ?_)
              replace h := mi_use ev15 h
              refine lv_istore_n (lv' := [(2, .int v15), (3, .int v14), (4, .int x3), (0, .int a0), (1, .int a1)]) hx hb dX4_partOf_37 rfl hl (by decide) rfl (fun ls hl => ?_)
              obtain ⟨v16, ev16⟩ : ∃ z : Int32, z = x3 + 1 := ⟨_, rfl⟩
              refine lv_iinc (v := v16) (lv' := [(4, .int v16), (2, .int v15), (3, .int v14), (0, .int a0), (1, .int a1)]) hx hb dX4_partOf_38 hl (k := 2) rfl (by rw [ev16]; rfl) (by decide) rfl (fun ls hl => ?_)
              replace h := mi_use ev16 h
              refine lv_goto (tgt := 7) hx hb dX4_partOf_41 (by decide) ?_
              exact ih _ _ _ _ (hA _ (Option.some.inj h).symm) hkE ls (lv_sub hl [1, 2, 0, 3, 4] rfl)
  obtain ⟨o17, ho17, h⟩ := Option.bind_eq_some_iff.mp h
  refine L7 N _ _ _ o17 ho17 ?_ ls (lv_sub hl [2, 1, 0, 3, 4] rfl)
  intro y4 y5 y6 eo ls hl
  subst eo
  try dsimp only at h
  refine lv_iload_n hx hb dX4_partOf_44 rfl (lv_at hl 0 rfl) ?_
  have hv : y4 = rr := Option.some.inj h
  exact W.iret (v := y4) hx hb hr (fun t ht hW => ⟨_, rfl, hv, ht⟩) (fun q hq => absurd hq List.not_mem_nil) dX4_partOf_45
def mX4_commonPart_b7 (N : Nat)  (st : Int32 × Int32 × Int32) : Option ((Int32 × Int32 × Int32) ⊕ (Int32 × Int32 × Int32)) :=
  match st with
  | (x1, x2, x3) => if 64 ≤ x3 then some (.inr (x1, x2, x3)) else if x2 = 0 then some (.inr (x1, x2, x3)) else if x2 = 0 then none else mi_let (mi_rem x1 x2) (fun v10 => mi_let (x3 + 1) (fun v11 => some (.inl (x2, v10, v11))))
def mX4_commonPart (N : Nat) (a0 : Int32) (a1 : Int32) : Option (Int32) := (mi_run (mX4_commonPart_b7 N) N (a0, a1, 0)).bind (fun o12 => match o12 with | (y4, y5, y6) => some y4)
abbrev rmX4_commonPart : Room := { frames := 0, cells := 0, slots := 0, locals := 0 }
set_option maxHeartbeats 4000000 in
set_option maxRecDepth 100000 in
theorem ctX4_commonPart (l : Launch) (N : Nat) (a0 : Int32) (a1 : Int32) (rr : Int32) (h : mX4_commonPart N a0 a1 = some rr) : Met l yX4_commonPart wsX4_commonPart rmX4_commonPart (fun v _ => v = ([.int a0, .int a1] : List Value).toArray) (vp_Si (fun r => r = rr)) 0 0 (fun _ => False) := by
  refine Met.ofW (cc := cX4_commonPart) (maxL := 6) (ret := (some .int)) (by decide) rfl ?_
  intro p e s m args below meth c s₁ B hml hv
  subst hv
  have hx := B.exec
  have hb := B.bytes
  have hr := B.returns
  have hts := atoms_spec (ws := wsX4_commonPart) B.pre
  have hown : s.vm.findClass RX4 = some m.cls := findClass_of_methodNamed B.named
  have hlocks := B.notSynchronized
  have hl := lv_entry ([.int a0, .int a1]) (n := 6) (Nat.le_of_ble_eq_true rfl)
  rw [lg_entry_eq]
  generalize (lg_sl ([.int a0, .int a1]) ++ List.replicate (6 - (lg_sl ([.int a0, .int a1])).length) Slot.unset).toArray = ls at hl ⊢
  have hl : lv_has ls 6 [(0, .int a0), (1, .int a1)] := hl
  dsimp only [mX4_commonPart] at h
  refine lv_iload_n hx hb dX4_commonPart_0 rfl (lv_at hl 0 rfl) ?_
  refine lv_istore_n (lv' := [(2, .int a0), (0, .int a0), (1, .int a1)]) hx hb dX4_commonPart_1 rfl hl (by decide) rfl (fun ls hl => ?_)
  refine lv_iload_n hx hb dX4_commonPart_2 rfl (lv_at hl 2 rfl) ?_
  refine lv_istore_n (lv' := [(3, .int a1), (2, .int a0), (0, .int a0), (1, .int a1)]) hx hb dX4_commonPart_3 rfl hl (by decide) rfl (fun ls hl => ?_)
  refine lv_iconst (v := 0) hx hb dX4_commonPart_4 (by decide) ?_
  refine lv_istore (lv' := [(4, .int 0), (3, .int a1), (2, .int a0), (0, .int a0), (1, .int a1)]) hx hb dX4_commonPart_5 hl (by decide) rfl (fun ls hl => ?_)
  have L7 : ∀ (n : Nat) (x1 : Int32) (x2 : Int32) (x3 : Int32) (o : Int32 × Int32 × Int32), mi_run (mX4_commonPart_b7 N) n (x1, x2, x3) = some o → (∀ (y4 : Int32) (y5 : Int32) (y6 : Int32), o = (y4, y5, y6) → ∀ ls, lv_has ls 6 [(2, .int y4), (3, .int y5), (4, .int y6), (0, .int a0), (1, .int a1)] → W p l e (headSpec wsX4_commonPart rmX4_commonPart).room s m (([.int a0, .int a1] : List Value).toArray) below meth c s.heap [] 0 0 (MQ below (vp_Si (fun r => r = rr)) (([.int a0, .int a1] : List Value).toArray) s 0 0 (fun _ => False)) (F0 m 34 ls [])) → ∀ ls, lv_has ls 6 [(2, .int x1), (3, .int x2), (4, .int x3), (0, .int a0), (1, .int a1)] → W p l e (headSpec wsX4_commonPart rmX4_commonPart).room s m (([.int a0, .int a1] : List Value).toArray) below meth c s.heap [] 0 0 (MQ below (vp_Si (fun r => r = rr)) (([.int a0, .int a1] : List Value).toArray) s 0 0 (fun _ => False)) (F0 m 7 ls []) := by
    intro n
    induction n with
    | zero => intro x1 x2 x3 o h; exact absurd h (mi_run_0 _ _ _)
    | succ n ih =>
      intro x1 x2 x3 o h hkE ls hl
      obtain ⟨w, h, hA, hB⟩ := mi_run_s h
      dsimp only [mX4_commonPart_b7] at h
      refine lv_iload hx hb dX4_commonPart_7 (lv_at hl 2 rfl) ?_
      refine lv_bipush (v := 64) hx hb dX4_commonPart_9 (by decide) ?_
      refine lv_icmp_ge (tgt := 34) hx hb dX4_commonPart_11 (by decide) (fun c7 => ?_) (fun c7 => ?_)
      · replace h := (if_pos c7).symm.trans h
        exact hkE _ _ _ (hB _ (Option.some.inj h).symm) ls (lv_sub hl [0, 1, 2, 3, 4] rfl)
      · replace h := (if_neg c7).symm.trans h
        refine lv_iload_n hx hb dX4_commonPart_14 rfl (lv_at hl 1 rfl) ?_
        refine lv_if_eq (tgt := 34) hx hb dX4_commonPart_15 (by decide) (fun c8 => ?_) (fun c8 => ?_)
        · replace h := (if_pos c8).symm.trans h
          exact hkE _ _ _ (hB _ (Option.some.inj h).symm) ls (lv_sub hl [0, 1, 2, 3, 4] rfl)
        · replace h := (if_neg c8).symm.trans h
          refine lv_iload_n hx hb dX4_commonPart_18 rfl (lv_at hl 0 rfl) ?_
          refine lv_iload_n hx hb dX4_commonPart_19 rfl (lv_at hl 1 rfl) ?_
          have hn9 : ¬ x2 = 0 := fun hz => absurd ((if_pos hz).symm.trans h) (fun hh => nomatch hh)
          replace h := (if_neg hn9).symm.trans h
          refine lv_irem hx hb dX4_commonPart_20 hn9 ?_
          refine lv_topi (fun v10 ev10 => ?_)
          replace h := mi_use ev10 h
          refine lv_istore (lv' := [(5, .int v10), (2, .int x1), (3, .int x2), (4, .int x3), (0, .int a0), (1, .int a1)]) hx hb dX4_commonPart_21 hl (by decide) rfl (fun ls hl => ?_)
          refine lv_iload_n hx hb dX4_commonPart_23 rfl (lv_at hl 2 rfl) ?_
          refine lv_istore_n (lv' := [(2, .int x2), (5, .int v10), (3, .int x2), (4, .int x3), (0, .int a0), (1, .int a1)]) hx hb dX4_commonPart_24 rfl hl (by decide) rfl (fun ls hl => ?_)
          refine lv_iload hx hb dX4_commonPart_25 (lv_at hl 1 rfl) ?_
          refine lv_istore_n (lv' := [(3, .int v10), (2, .int x2), (5, .int v10), (4, .int x3), (0, .int a0), (1, .int a1)]) hx hb dX4_commonPart_27 rfl hl (by decide) rfl (fun ls hl => ?_)
          obtain ⟨v11, ev11⟩ : ∃ z : Int32, z = x3 + 1 := ⟨_, rfl⟩
          refine lv_iinc (v := v11) (lv' := [(4, .int v11), (3, .int v10), (2, .int x2), (5, .int v10), (0, .int a0), (1, .int a1)]) hx hb dX4_commonPart_28 hl (k := 3) rfl (by rw [ev11]; rfl) (by decide) rfl (fun ls hl => ?_)
          replace h := mi_use ev11 h
          refine lv_goto (tgt := 7) hx hb dX4_commonPart_31 (by decide) ?_
          exact ih _ _ _ _ (hA _ (Option.some.inj h).symm) hkE ls (lv_sub hl [2, 1, 0, 4, 5] rfl)
  obtain ⟨o12, ho12, h⟩ := Option.bind_eq_some_iff.mp h
  refine L7 N _ _ _ o12 ho12 ?_ ls (lv_sub hl [2, 1, 0, 3, 4] rfl)
  intro y4 y5 y6 eo ls hl
  subst eo
  try dsimp only at h
  refine lv_iload_n hx hb dX4_commonPart_34 rfl (lv_at hl 0 rfl) ?_
  have hv : y4 = rr := Option.some.inj h
  exact W.iret (v := y4) hx hb hr (fun t ht hW => ⟨_, rfl, hv, ht⟩) (fun q hq => absurd hq List.not_mem_nil) dX4_commonPart_35
def mX4_inverted_b13 (N : Nat)  (st : Int32 × Int32 × Int32 × Int32 × Int32) : Option ((Int32 × Int32 × Int32 × Int32 × Int32) ⊕ (Int32 × Int32 × Int32 × Int32 × Int32)) :=
  match st with
  | (x1, x2, x3, x4, x5) => if 64 ≤ x5 then some (.inr (x1, x2, x3, x4, x5)) else if x2 ≤ 1 then some (.inr (x1, x2, x3, x4, x5)) else if x2 = 0 then none else mi_let (x1 / x2) (fun v14 => mi_let (x1 - (v14 * x2)) (fun v15 => mi_let (x3 - (v14 * x4)) (fun v16 => mi_let (x5 + 1) (fun v17 => some (.inl (x2, v15, x4, v16, v17))))))
def mX4_inverted (N : Nat) (a0 : Int32) (a1 : Int32) : Option (Int32) := (mi_run (mX4_inverted_b13 N) N (a1, a0, 0, 1, 0)).bind (fun o18 => match o18 with | (y6, y7, y8, y9, y10) => if 0 ≤ y9 then some y9 else some (y9 + a1))
abbrev rmX4_inverted : Room := { frames := 0, cells := 0, slots := 0, locals := 0 }
set_option maxHeartbeats 4000000 in
set_option maxRecDepth 100000 in
theorem ctX4_inverted (l : Launch) (N : Nat) (a0 : Int32) (a1 : Int32) (rr : Int32) (h : mX4_inverted N a0 a1 = some rr) : Met l yX4_inverted wsX4_inverted rmX4_inverted (fun v _ => v = ([.int a0, .int a1] : List Value).toArray) (vp_Si (fun r => r = rr)) 0 0 (fun _ => False) := by
  refine Met.ofW (cc := cX4_inverted) (maxL := 10) (ret := (some .int)) (by decide) rfl ?_
  intro p e s m args below meth c s₁ B hml hv
  subst hv
  have hx := B.exec
  have hb := B.bytes
  have hr := B.returns
  have hts := atoms_spec (ws := wsX4_inverted) B.pre
  have hown : s.vm.findClass RX4 = some m.cls := findClass_of_methodNamed B.named
  have hlocks := B.notSynchronized
  have hl := lv_entry ([.int a0, .int a1]) (n := 10) (Nat.le_of_ble_eq_true rfl)
  rw [lg_entry_eq]
  generalize (lg_sl ([.int a0, .int a1]) ++ List.replicate (10 - (lg_sl ([.int a0, .int a1])).length) Slot.unset).toArray = ls at hl ⊢
  have hl : lv_has ls 10 [(0, .int a0), (1, .int a1)] := hl
  dsimp only [mX4_inverted] at h
  refine lv_iload_n hx hb dX4_inverted_0 rfl (lv_at hl 1 rfl) ?_
  refine lv_istore_n (lv' := [(2, .int a1), (0, .int a0), (1, .int a1)]) hx hb dX4_inverted_1 rfl hl (by decide) rfl (fun ls hl => ?_)
  refine lv_iload_n hx hb dX4_inverted_2 rfl (lv_at hl 1 rfl) ?_
  refine lv_istore_n (lv' := [(3, .int a0), (2, .int a1), (0, .int a0), (1, .int a1)]) hx hb dX4_inverted_3 rfl hl (by decide) rfl (fun ls hl => ?_)
  refine lv_iconst (v := 0) hx hb dX4_inverted_4 (by decide) ?_
  refine lv_istore (lv' := [(4, .int 0), (3, .int a0), (2, .int a1), (0, .int a0), (1, .int a1)]) hx hb dX4_inverted_5 hl (by decide) rfl (fun ls hl => ?_)
  refine lv_iconst (v := 1) hx hb dX4_inverted_7 (by decide) ?_
  refine lv_istore (lv' := [(5, .int 1), (4, .int 0), (3, .int a0), (2, .int a1), (0, .int a0), (1, .int a1)]) hx hb dX4_inverted_8 hl (by decide) rfl (fun ls hl => ?_)
  refine lv_iconst (v := 0) hx hb dX4_inverted_10 (by decide) ?_
  refine lv_istore (lv' := [(6, .int 0), (5, .int 1), (4, .int 0), (3, .int a0), (2, .int a1), (0, .int a0), (1, .int a1)]) hx hb dX4_inverted_11 hl (by decide) rfl (fun ls hl => ?_)
  have L13 : ∀ (n : Nat) (x1 : Int32) (x2 : Int32) (x3 : Int32) (x4 : Int32) (x5 : Int32) (o : Int32 × Int32 × Int32 × Int32 × Int32), mi_run (mX4_inverted_b13 N) n (x1, x2, x3, x4, x5) = some o → (∀ (y6 : Int32) (y7 : Int32) (y8 : Int32) (y9 : Int32) (y10 : Int32), o = (y6, y7, y8, y9, y10) → ∀ ls, lv_has ls 10 [(2, .int y6), (3, .int y7), (4, .int y8), (5, .int y9), (6, .int y10), (0, .int a0), (1, .int a1)] → W p l e (headSpec wsX4_inverted rmX4_inverted).room s m (([.int a0, .int a1] : List Value).toArray) below meth c s.heap [] 0 0 (MQ below (vp_Si (fun r => r = rr)) (([.int a0, .int a1] : List Value).toArray) s 0 0 (fun _ => False)) (F0 m 67 ls [])) → ∀ ls, lv_has ls 10 [(2, .int x1), (3, .int x2), (4, .int x3), (5, .int x4), (6, .int x5), (0, .int a0), (1, .int a1)] → W p l e (headSpec wsX4_inverted rmX4_inverted).room s m (([.int a0, .int a1] : List Value).toArray) below meth c s.heap [] 0 0 (MQ below (vp_Si (fun r => r = rr)) (([.int a0, .int a1] : List Value).toArray) s 0 0 (fun _ => False)) (F0 m 13 ls []) := by
    intro n
    induction n with
    | zero => intro x1 x2 x3 x4 x5 o h; exact absurd h (mi_run_0 _ _ _)
    | succ n ih =>
      intro x1 x2 x3 x4 x5 o h hkE ls hl
      obtain ⟨w, h, hA, hB⟩ := mi_run_s h
      dsimp only [mX4_inverted_b13] at h
      refine lv_iload hx hb dX4_inverted_13 (lv_at hl 4 rfl) ?_
      refine lv_bipush (v := 64) hx hb dX4_inverted_15 (by decide) ?_
      refine lv_icmp_ge (tgt := 67) hx hb dX4_inverted_17 (by decide) (fun c11 => ?_) (fun c11 => ?_)
      · replace h := (if_pos c11).symm.trans h
        exact hkE _ _ _ _ _ (hB _ (Option.some.inj h).symm) ls (lv_sub hl [0, 1, 2, 3, 4, 5, 6] rfl)
      · replace h := (if_neg c11).symm.trans h
        refine lv_iload_n hx hb dX4_inverted_20 rfl (lv_at hl 1 rfl) ?_
        refine lv_iconst (v := 1) hx hb dX4_inverted_21 (by decide) ?_
        refine lv_icmp_le (tgt := 67) hx hb dX4_inverted_22 (by decide) (fun c12 => ?_) (fun c12 => ?_)
        · replace h := (if_pos c12).symm.trans h
          exact hkE _ _ _ _ _ (hB _ (Option.some.inj h).symm) ls (lv_sub hl [0, 1, 2, 3, 4, 5, 6] rfl)
        · replace h := (if_neg c12).symm.trans h
          refine lv_iload_n hx hb dX4_inverted_25 rfl (lv_at hl 0 rfl) ?_
          refine lv_iload_n hx hb dX4_inverted_26 rfl (lv_at hl 1 rfl) ?_
          have hn13 : ¬ x2 = 0 := fun hz => absurd ((if_pos hz).symm.trans h) (fun hh => nomatch hh)
          replace h := (if_neg hn13).symm.trans h
          refine lv_idiv hx hb dX4_inverted_27 hn13 ?_
          refine lv_topi (fun v14 ev14 => ?_)
          replace h := mi_use ev14 h
          refine lv_istore (lv' := [(7, .int v14), (2, .int x1), (3, .int x2), (4, .int x3), (5, .int x4), (6, .int x5), (0, .int a0), (1, .int a1)]) hx hb dX4_inverted_28 hl (by decide) rfl (fun ls hl => ?_)
          refine lv_iload_n hx hb dX4_inverted_30 rfl (lv_at hl 1 rfl) ?_
          refine lv_iload hx hb dX4_inverted_31 (lv_at hl 0 rfl) ?_
          refine lv_iload_n hx hb dX4_inverted_33 rfl (lv_at hl 2 rfl) ?_
          refine lv_imul hx hb dX4_inverted_34 ?_
          refine lv_isub hx hb dX4_inverted_35 ?_
          refine lv_topi (fun v15 ev15 => ?_)
          replace h := mi_use ev15 h
          refine lv_istore (lv' := [(8, .int v15), (7, .int v14), (2, .int x1), (3, .int x2), (4, .int x3), (5, .int x4), (6, .int x5), (0, .int a0), (1, .int a1)]) hx hb dX4_inverted_36 hl (by decide) rfl (fun ls hl => ?_)
          refine lv_iload hx hb dX4_inverted_38 (lv_at hl 4 rfl) ?_
          refine lv_iload hx hb dX4_inverted_40 (lv_at hl 1 rfl) ?_
          refine lv_iload hx hb dX4_inverted_42 (lv_at hl 5 rfl) ?_
          refine lv_imul hx hb dX4_inverted_44 ?_
          refine lv_isub hx hb dX4_inverted_45 ?_
          refine lv_topi (fun v16 ev16 => ?_)
          replace h := mi_use ev16 h
          refine lv_istore (lv' := [(9, .int v16), (8, .int v15), (7, .int v14), (2, .int x1), (3, .int x2), (4, .int x3), (5, .int x4), (6, .int x5), (0, .int a0), (1, .int a1)]) hx hb dX4_inverted_46 hl (by decide) rfl (fun ls hl => ?_)
          refine lv_iload_n hx hb dX4_inverted_48 rfl (lv_at hl 4 rfl) ?_
          refine lv_istore_n (lv' := [(2, .int x2), (9, .int v16), (8, .int v15), (7, .int v14), (3, .int x2), (4, .int x3), (5, .int x4), (6, .int x5), (0, .int a0), (1, .int a1)]) hx hb dX4_inverted_49 rfl hl (by decide) rfl (fun ls hl => ?_)
          refine lv_iload hx hb dX4_inverted_50 (lv_at hl 2 rfl) ?_
          refine lv_istore_n (lv' := [(3, .int v15), (2, .int x2), (9, .int v16), (8, .int v15), (7, .int v14), (4, .int x3), (5, .int x4), (6, .int x5), (0, .int a0), (1, .int a1)]) hx hb dX4_inverted_52 rfl hl (by decide) rfl (fun ls hl => ?_)
          refine lv_iload hx hb dX4_inverted_53 (lv_at hl 6 rfl) ?_
          refine lv_istore (lv' := [(4, .int x4), (3, .int v15), (2, .int x2), (9, .int v16), (8, .int v15), (7, .int v14), (5, .int x4), (6, .int x5), (0, .int a0), (1, .int a1)]) hx hb dX4_inverted_55 hl (by decide) rfl (fun ls hl => ?_)
          refine lv_iload hx hb dX4_inverted_57 (lv_at hl 3 rfl) ?_
          refine lv_istore (lv' := [(5, .int v16), (4, .int x4), (3, .int v15), (2, .int x2), (9, .int v16), (8, .int v15), (7, .int v14), (6, .int x5), (0, .int a0), (1, .int a1)]) hx hb dX4_inverted_59 hl (by decide) rfl (fun ls hl => ?_)
          obtain ⟨v17, ev17⟩ : ∃ z : Int32, z = x5 + 1 := ⟨_, rfl⟩
          refine lv_iinc (v := v17) (lv' := [(6, .int v17), (5, .int v16), (4, .int x4), (3, .int v15), (2, .int x2), (9, .int v16), (8, .int v15), (7, .int v14), (0, .int a0), (1, .int a1)]) hx hb dX4_inverted_61 hl (k := 7) rfl (by rw [ev17]; rfl) (by decide) rfl (fun ls hl => ?_)
          replace h := mi_use ev17 h
          refine lv_goto (tgt := 13) hx hb dX4_inverted_64 (by decide) ?_
          exact ih _ _ _ _ _ _ (hA _ (Option.some.inj h).symm) hkE ls (lv_sub hl [4, 3, 2, 1, 0, 8, 9] rfl)
  obtain ⟨o18, ho18, h⟩ := Option.bind_eq_some_iff.mp h
  refine L13 N _ _ _ _ _ o18 ho18 ?_ ls (lv_sub hl [4, 3, 2, 1, 0, 5, 6] rfl)
  intro y6 y7 y8 y9 y10 eo ls hl
  subst eo
  try dsimp only at h
  refine lv_iload hx hb dX4_inverted_67 (lv_at hl 3 rfl) ?_
  refine lv_if_ge (tgt := 79) hx hb dX4_inverted_69 (by decide) (fun c19 => ?_) (fun c19 => ?_)
  · replace h := (if_pos c19).symm.trans h
    refine lv_iload hx hb dX4_inverted_79 (lv_at hl 3 rfl) ?_
    have hv : y9 = rr := Option.some.inj h
    exact W.iret (v := y9) hx hb hr (fun t ht hW => ⟨_, rfl, hv, ht⟩) (fun q hq => absurd hq List.not_mem_nil) dX4_inverted_81
  · replace h := (if_neg c19).symm.trans h
    refine lv_iload hx hb dX4_inverted_72 (lv_at hl 3 rfl) ?_
    refine lv_iload_n hx hb dX4_inverted_74 rfl (lv_at hl 6 rfl) ?_
    refine lv_iadd hx hb dX4_inverted_75 ?_
    refine lv_goto (tgt := 81) hx hb dX4_inverted_76 (by decide) ?_
    have hv : y9 + a1 = rr := Option.some.inj h
    exact W.iret (v := (y9 + a1)) hx hb hr (fun t ht hW => ⟨_, rfl, hv, ht⟩) (fun q hq => absurd hq List.not_mem_nil) dX4_inverted_81
def mX4_raised_b12 (N : Nat) (a2 : Int32) (st : Int32 × Int32 × Int64 × Int32) : Option ((Int32 × Int32 × Int64 × Int32) ⊕ (Int32 × Int32 × Int64 × Int32)) :=
  match st with
  | (x1, x2, x3, x4) => if 64 ≤ x4 then some (.inr (x1, x2, x3, x4)) else mi_let (lg_cmp x3 0) (fun v10 => if v10 = 0 then some (.inr (x1, x2, x3, x4)) else mi_let (lg_cmp (x3 &&& 1) 1) (fun v12 => if v12 = 0 then if a2 = 0 then none else mi_let (mi_rem (x1 * x2) a2) (fun v19 => if a2 = 0 then none else mi_let (mi_rem (x2 * x2) a2) (fun v21 => mi_let ((x3.toUInt64 >>> ((1 : Int32).toInt64.toUInt64 &&& Int64.toUInt64 63)).toInt64) (fun v22 => mi_let (x4 + 1) (fun v23 => some (.inl (v19, v21, v22, v23)))))) else if a2 = 0 then none else mi_let (mi_rem (x2 * x2) a2) (fun v15 => mi_let ((x3.toUInt64 >>> ((1 : Int32).toInt64.toUInt64 &&& Int64.toUInt64 63)).toInt64) (fun v16 => mi_let (x4 + 1) (fun v17 => some (.inl (x1, v15, v16, v17)))))))
def mX4_raised (N : Nat) (a0 : Int32) (a1 : Int64) (a2 : Int32) : Option (Int32) := (mi_run (mX4_raised_b12 N a2) N (1, a0, a1, 0)).bind (fun o24 => match o24 with | (y5, y6, y7, y8) => some y5)
abbrev rmX4_raised : Room := { frames := 0, cells := 0, slots := 0, locals := 0 }
set_option maxHeartbeats 4000000 in
set_option maxRecDepth 100000 in
theorem ctX4_raised (l : Launch) (N : Nat) (a0 : Int32) (a1 : Int64) (a2 : Int32) (rr : Int32) (h : mX4_raised N a0 a1 a2 = some rr) : Met l yX4_raised wsX4_raised rmX4_raised (fun v _ => v = ([.int a0, .long a1, .int a2] : List Value).toArray) (vp_Si (fun r => r = rr)) 0 0 (fun _ => False) := by
  refine Met.ofW (cc := cX4_raised) (maxL := 9) (ret := (some .int)) (by decide) rfl ?_
  intro p e s m args below meth c s₁ B hml hv
  subst hv
  have hx := B.exec
  have hb := B.bytes
  have hr := B.returns
  have hts := atoms_spec (ws := wsX4_raised) B.pre
  have hown : s.vm.findClass RX4 = some m.cls := findClass_of_methodNamed B.named
  have hlocks := B.notSynchronized
  have hl := lv_entry ([.int a0, .long a1, .int a2]) (n := 9) (Nat.le_of_ble_eq_true rfl)
  rw [lg_entry_eq]
  generalize (lg_sl ([.int a0, .long a1, .int a2]) ++ List.replicate (9 - (lg_sl ([.int a0, .long a1, .int a2])).length) Slot.unset).toArray = ls at hl ⊢
  have hl : lv_has ls 9 [(0, .int a0), (1, .long a1), (3, .int a2)] := hl
  dsimp only [mX4_raised] at h
  refine lv_iconst (v := 1) hx hb dX4_raised_0 (by decide) ?_
  refine lv_istore (lv' := [(4, .int 1), (0, .int a0), (1, .long a1), (3, .int a2)]) hx hb dX4_raised_1 hl (by decide) rfl (fun ls hl => ?_)
  refine lv_iload_n hx hb dX4_raised_3 rfl (lv_at hl 1 rfl) ?_
  refine lv_istore (lv' := [(5, .int a0), (4, .int 1), (0, .int a0), (1, .long a1), (3, .int a2)]) hx hb dX4_raised_4 hl (by decide) rfl (fun ls hl => ?_)
  refine lv_lload_n hx hb dX4_raised_6 rfl (lv_at hl 3 rfl) ?_
  refine lv_lstore (lv' := [(6, .long a1), (5, .int a0), (4, .int 1), (0, .int a0), (1, .long a1), (3, .int a2)]) hx hb dX4_raised_7 hl (by decide) rfl (fun ls hl => ?_)
  refine lv_iconst (v := 0) hx hb dX4_raised_9 (by decide) ?_
  refine lv_istore (lv' := [(8, .int 0), (6, .long a1), (5, .int a0), (4, .int 1), (0, .int a0), (1, .long a1), (3, .int a2)]) hx hb dX4_raised_10 hl (by decide) rfl (fun ls hl => ?_)
  have L12 : ∀ (n : Nat) (x1 : Int32) (x2 : Int32) (x3 : Int64) (x4 : Int32) (o : Int32 × Int32 × Int64 × Int32), mi_run (mX4_raised_b12 N a2) n (x1, x2, x3, x4) = some o → (∀ (y5 : Int32) (y6 : Int32) (y7 : Int64) (y8 : Int32), o = (y5, y6, y7, y8) → ∀ ls, lv_has ls 9 [(4, .int y5), (5, .int y6), (6, .long y7), (8, .int y8), (0, .int a0), (1, .long a1), (3, .int a2)] → W p l e (headSpec wsX4_raised rmX4_raised).room s m (([.int a0, .long a1, .int a2] : List Value).toArray) below meth c s.heap [] 0 0 (MQ below (vp_Si (fun r => r = rr)) (([.int a0, .long a1, .int a2] : List Value).toArray) s 0 0 (fun _ => False)) (F0 m 65 ls [])) → ∀ ls, lv_has ls 9 [(4, .int x1), (5, .int x2), (6, .long x3), (8, .int x4), (0, .int a0), (1, .long a1), (3, .int a2)] → W p l e (headSpec wsX4_raised rmX4_raised).room s m (([.int a0, .long a1, .int a2] : List Value).toArray) below meth c s.heap [] 0 0 (MQ below (vp_Si (fun r => r = rr)) (([.int a0, .long a1, .int a2] : List Value).toArray) s 0 0 (fun _ => False)) (F0 m 12 ls []) := by
    intro n
    induction n with
    | zero => intro x1 x2 x3 x4 o h; exact absurd h (mi_run_0 _ _ _)
    | succ n ih =>
      intro x1 x2 x3 x4 o h hkE ls hl
      obtain ⟨w, h, hA, hB⟩ := mi_run_s h
      dsimp only [mX4_raised_b12] at h
      refine lv_iload hx hb dX4_raised_12 (lv_at hl 3 rfl) ?_
      refine lv_bipush (v := 64) hx hb dX4_raised_14 (by decide) ?_
      refine lv_icmp_ge (tgt := 65) hx hb dX4_raised_16 (by decide) (fun c9 => ?_) (fun c9 => ?_)
      · replace h := (if_pos c9).symm.trans h
        exact hkE _ _ _ _ (hB _ (Option.some.inj h).symm) ls (lv_sub hl [0, 1, 2, 3, 4, 5, 6] rfl)
      · replace h := (if_neg c9).symm.trans h
        refine lv_lload hx hb dX4_raised_19 (lv_at hl 2 rfl) ?_
        refine lv_lconst (v := 0) hx hb dX4_raised_21 (by decide) ?_
        refine W.lcmp hx hb dX4_raised_22 ?_
        refine lv_topi (fun v10 ev10 => ?_)
        replace h := mi_use ev10 h
        refine lv_if_eq (tgt := 65) hx hb dX4_raised_23 (by decide) (fun c11 => ?_) (fun c11 => ?_)
        · replace h := (if_pos c11).symm.trans h
          exact hkE _ _ _ _ (hB _ (Option.some.inj h).symm) ls (lv_sub hl [0, 1, 2, 3, 4, 5, 6] rfl)
        · replace h := (if_neg c11).symm.trans h
          refine lv_lload hx hb dX4_raised_26 (lv_at hl 2 rfl) ?_
          refine lv_lconst (v := 1) hx hb dX4_raised_28 (by decide) ?_
          refine lv_land hx hb dX4_raised_29 ?_
          refine lv_lconst (v := 1) hx hb dX4_raised_30 (by decide) ?_
          refine W.lcmp hx hb dX4_raised_31 ?_
          refine lv_topi (fun v12 ev12 => ?_)
          replace h := mi_use ev12 h
          refine lv_if_ne (tgt := 44) hx hb dX4_raised_32 (by decide) (fun c13 => ?_) (fun c13 => ?_)
          · replace h := (if_neg c13).symm.trans h
            refine lv_iload hx hb dX4_raised_44 (lv_at hl 1 rfl) ?_
            refine lv_iload hx hb dX4_raised_46 (lv_at hl 1 rfl) ?_
            refine lv_imul hx hb dX4_raised_48 ?_
            refine lv_iload_n hx hb dX4_raised_49 rfl (lv_at hl 6 rfl) ?_
            have hn14 : ¬ a2 = 0 := fun hz => absurd ((if_pos hz).symm.trans h) (fun hh => nomatch hh)
            replace h := (if_neg hn14).symm.trans h
            refine lv_irem hx hb dX4_raised_50 hn14 ?_
            refine lv_topi (fun v15 ev15 => ?_)
            replace h := mi_use ev15 h
            refine lv_istore (lv' := [(5, .int v15), (4, .int x1), (6, .long x3), (8, .int x4), (0, .int a0), (1, .long a1), (3, .int a2)]) hx hb dX4_raised_51 hl (by decide) rfl (fun ls hl => ?_)
            refine lv_lload hx hb dX4_raised_53 (lv_at hl 2 rfl) ?_
            refine lv_iconst (v := 1) hx hb dX4_raised_55 (by decide) ?_
            refine lv_lushr hx hb dX4_raised_56 rfl ?_
            refine lv_topl (fun v16 ev16 => ?_)
            replace h := mi_use ev16 h
            refine lv_lstore (lv' := [(6, .long v16), (5, .int v15), (4, .int x1), (8, .int x4), (0, .int a0), (1, .long a1), (3, .int a2)]) hx hb dX4_raised_57 hl (by decide) rfl (fun ls hl => ?_)
            obtain ⟨v17, ev17⟩ : ∃ z : Int32, z = x4 + 1 := ⟨_, rfl⟩
            refine lv_iinc (v := v17) (lv' := [(8, .int v17), (6, .long v16), (5, .int v15), (4, .int x1), (0, .int a0), (1, .long a1), (3, .int a2)]) hx hb dX4_raised_59 hl (k := 3) rfl (by rw [ev17]; rfl) (by decide) rfl (fun ls hl => ?_)
            replace h := mi_use ev17 h
            refine lv_goto (tgt := 12) hx hb dX4_raised_62 (by decide) ?_
            exact ih _ _ _ _ _ (hA _ (Option.some.inj h).symm) hkE ls (lv_sub hl [3, 2, 1, 0, 4, 5, 6] rfl)
          · replace h := (if_pos c13).symm.trans h
            refine lv_iload hx hb dX4_raised_35 (lv_at hl 0 rfl) ?_
            refine lv_iload hx hb dX4_raised_37 (lv_at hl 1 rfl) ?_
            refine lv_imul hx hb dX4_raised_39 ?_
            refine lv_iload_n hx hb dX4_raised_40 rfl (lv_at hl 6 rfl) ?_
            have hn18 : ¬ a2 = 0 := fun hz => absurd ((if_pos hz).symm.trans h) (fun hh => nomatch hh)
            replace h := (if_neg hn18).symm.trans h
            refine lv_irem hx hb dX4_raised_41 hn18 ?_
            refine lv_topi (fun v19 ev19 => ?_)
            replace h := mi_use ev19 h
            refine lv_istore (lv' := [(4, .int v19), (5, .int x2), (6, .long x3), (8, .int x4), (0, .int a0), (1, .long a1), (3, .int a2)]) hx hb dX4_raised_42 hl (by decide) rfl (fun ls hl => ?_)
            refine lv_iload hx hb dX4_raised_44 (lv_at hl 1 rfl) ?_
            refine lv_iload hx hb dX4_raised_46 (lv_at hl 1 rfl) ?_
            refine lv_imul hx hb dX4_raised_48 ?_
            refine lv_iload_n hx hb dX4_raised_49 rfl (lv_at hl 6 rfl) ?_
            have hn20 : ¬ a2 = 0 := fun hz => absurd ((if_pos hz).symm.trans h) (fun hh => nomatch hh)
            replace h := (if_neg hn20).symm.trans h
            refine lv_irem hx hb dX4_raised_50 hn20 ?_
            refine lv_topi (fun v21 ev21 => ?_)
            replace h := mi_use ev21 h
            refine lv_istore (lv' := [(5, .int v21), (4, .int v19), (6, .long x3), (8, .int x4), (0, .int a0), (1, .long a1), (3, .int a2)]) hx hb dX4_raised_51 hl (by decide) rfl (fun ls hl => ?_)
            refine lv_lload hx hb dX4_raised_53 (lv_at hl 2 rfl) ?_
            refine lv_iconst (v := 1) hx hb dX4_raised_55 (by decide) ?_
            refine lv_lushr hx hb dX4_raised_56 rfl ?_
            refine lv_topl (fun v22 ev22 => ?_)
            replace h := mi_use ev22 h
            refine lv_lstore (lv' := [(6, .long v22), (5, .int v21), (4, .int v19), (8, .int x4), (0, .int a0), (1, .long a1), (3, .int a2)]) hx hb dX4_raised_57 hl (by decide) rfl (fun ls hl => ?_)
            obtain ⟨v23, ev23⟩ : ∃ z : Int32, z = x4 + 1 := ⟨_, rfl⟩
            refine lv_iinc (v := v23) (lv' := [(8, .int v23), (6, .long v22), (5, .int v21), (4, .int v19), (0, .int a0), (1, .long a1), (3, .int a2)]) hx hb dX4_raised_59 hl (k := 3) rfl (by rw [ev23]; rfl) (by decide) rfl (fun ls hl => ?_)
            replace h := mi_use ev23 h
            refine lv_goto (tgt := 12) hx hb dX4_raised_62 (by decide) ?_
            exact ih _ _ _ _ _ (hA _ (Option.some.inj h).symm) hkE ls (lv_sub hl [3, 2, 1, 0, 4, 5, 6] rfl)
  obtain ⟨o24, ho24, h⟩ := Option.bind_eq_some_iff.mp h
  refine L12 N _ _ _ _ o24 ho24 ?_ ls (lv_sub hl [3, 2, 1, 0, 4, 5, 6] rfl)
  intro y5 y6 y7 y8 eo ls hl
  subst eo
  try dsimp only at h
  refine lv_iload hx hb dX4_raised_65 (lv_at hl 0 rfl) ?_
  have hv : y5 = rr := Option.some.inj h
  exact W.iret (v := y5) hx hb hr (fun t ht hW => ⟨_, rfl, hv, ht⟩) (fun q hq => absurd hq List.not_mem_nil) dX4_raised_67
def mX4_reachOf_b2 (N : Nat) (a0 : Int32) (st : Int32) : Option ((Int32) ⊕ ((Int32) ⊕ (Int32))) :=
  match st with
  | x1 => if a0 ≤ x1 then some (.inr (.inl x1)) else if ((x1 + 1) * (x1 + 1)) ≤ (4 * a0) then mi_let (x1 + 1) (fun v5 => some (.inl v5)) else some (.inr (.inl x1))
def mX4_reachOf (N : Nat) (a0 : Int32) : Option (Int32) := (mi_run (mX4_reachOf_b2 N a0) N 0).bind (fun o6 => match o6 with | .inl y2 => some y2 | .inr r7 => some r7)
abbrev rmX4_reachOf : Room := { frames := 0, cells := 0, slots := 0, locals := 0 }
set_option maxHeartbeats 4000000 in
set_option maxRecDepth 100000 in
theorem ctX4_reachOf (l : Launch) (N : Nat) (a0 : Int32) (rr : Int32) (h : mX4_reachOf N a0 = some rr) : Met l yX4_reachOf wsX4_reachOf rmX4_reachOf (fun v _ => v = ([.int a0] : List Value).toArray) (vp_Si (fun r => r = rr)) 0 0 (fun _ => False) := by
  refine Met.ofW (cc := cX4_reachOf) (maxL := 2) (ret := (some .int)) (by decide) rfl ?_
  intro p e s m args below meth c s₁ B hml hv
  subst hv
  have hx := B.exec
  have hb := B.bytes
  have hr := B.returns
  have hts := atoms_spec (ws := wsX4_reachOf) B.pre
  have hown : s.vm.findClass RX4 = some m.cls := findClass_of_methodNamed B.named
  have hlocks := B.notSynchronized
  have hl := lv_entry ([.int a0]) (n := 2) (Nat.le_of_ble_eq_true rfl)
  rw [lg_entry_eq]
  generalize (lg_sl ([.int a0]) ++ List.replicate (2 - (lg_sl ([.int a0])).length) Slot.unset).toArray = ls at hl ⊢
  have hl : lv_has ls 2 [(0, .int a0)] := hl
  dsimp only [mX4_reachOf] at h
  refine lv_iconst (v := 0) hx hb dX4_reachOf_0 (by decide) ?_
  refine lv_istore_n (lv' := [(1, .int 0), (0, .int a0)]) hx hb dX4_reachOf_1 rfl hl (by decide) rfl (fun ls hl => ?_)
  have L2 : ∀ (n : Nat) (x1 : Int32) (o : (Int32) ⊕ (Int32)), mi_run (mX4_reachOf_b2 N a0) n x1 = some o → (∀ (y2 : Int32), o = .inl y2 → ∀ ls, lv_has ls 2 [(1, .int y2), (0, .int a0)] → W p l e (headSpec wsX4_reachOf rmX4_reachOf).room s m (([.int a0] : List Value).toArray) below meth c s.heap [] 0 0 (MQ below (vp_Si (fun r => r = rr)) (([.int a0] : List Value).toArray) s 0 0 (fun _ => False)) (F0 m 29 ls [])) → (∀ v : Int32, o = .inr v → v = rr) → ∀ ls, lv_has ls 2 [(1, .int x1), (0, .int a0)] → W p l e (headSpec wsX4_reachOf rmX4_reachOf).room s m (([.int a0] : List Value).toArray) below meth c s.heap [] 0 0 (MQ below (vp_Si (fun r => r = rr)) (([.int a0] : List Value).toArray) s 0 0 (fun _ => False)) (F0 m 2 ls []) := by
    intro n
    induction n with
    | zero => intro x1 o h; exact absurd h (mi_run_0 _ _ _)
    | succ n ih =>
      intro x1 o h hkE hkR ls hl
      obtain ⟨w, h, hA, hB⟩ := mi_run_s h
      dsimp only [mX4_reachOf_b2] at h
      refine lv_iload_n hx hb dX4_reachOf_2 rfl (lv_at hl 0 rfl) ?_
      refine lv_iload_n hx hb dX4_reachOf_3 rfl (lv_at hl 1 rfl) ?_
      refine lv_icmp_ge (tgt := 29) hx hb dX4_reachOf_4 (by decide) (fun c3 => ?_) (fun c3 => ?_)
      · replace h := (if_pos c3).symm.trans h
        exact hkE _ (hB _ (Option.some.inj h).symm) ls (lv_sub hl [0, 1] rfl)
      · replace h := (if_neg c3).symm.trans h
        refine lv_iload_n hx hb dX4_reachOf_7 rfl (lv_at hl 0 rfl) ?_
        refine lv_iconst (v := 1) hx hb dX4_reachOf_8 (by decide) ?_
        refine lv_iadd hx hb dX4_reachOf_9 ?_
        refine lv_iload_n hx hb dX4_reachOf_10 rfl (lv_at hl 0 rfl) ?_
        refine lv_iconst (v := 1) hx hb dX4_reachOf_11 (by decide) ?_
        refine lv_iadd hx hb dX4_reachOf_12 ?_
        refine lv_imul hx hb dX4_reachOf_13 ?_
        refine lv_iconst (v := 4) hx hb dX4_reachOf_14 (by decide) ?_
        refine lv_iload_n hx hb dX4_reachOf_15 rfl (lv_at hl 1 rfl) ?_
        refine lv_imul hx hb dX4_reachOf_16 ?_
        refine lv_icmp_le (tgt := 23) hx hb dX4_reachOf_17 (by decide) (fun c4 => ?_) (fun c4 => ?_)
        · replace h := (if_pos c4).symm.trans h
          obtain ⟨v5, ev5⟩ : ∃ z : Int32, z = x1 + 1 := ⟨_, rfl⟩
          refine lv_iinc (v := v5) (lv' := [(1, .int v5), (0, .int a0)]) hx hb dX4_reachOf_23 hl (k := 0) rfl (by rw [ev5]; rfl) (by decide) rfl (fun ls hl => ?_)
          replace h := mi_use ev5 h
          refine lv_goto (tgt := 2) hx hb dX4_reachOf_26 (by decide) ?_
          exact ih _ _ (hA _ (Option.some.inj h).symm) hkE hkR ls (lv_sub hl [0, 1] rfl)
        · replace h := (if_neg c4).symm.trans h
          refine lv_goto (tgt := 29) hx hb dX4_reachOf_20 (by decide) ?_
          exact hkE _ (hB _ (Option.some.inj h).symm) ls (lv_sub hl [0, 1] rfl)
  obtain ⟨o6, ho6, h⟩ := Option.bind_eq_some_iff.mp h
  refine L2 N _ o6 ho6 ?_ ?_ ls (lv_sub hl [0, 1] rfl)
  · intro y2 eo ls hl
    subst eo
    try dsimp only at h
    refine lv_iload_n hx hb dX4_reachOf_29 rfl (lv_at hl 0 rfl) ?_
    have hv : y2 = rr := Option.some.inj h
    exact W.iret (v := y2) hx hb hr (fun t ht hW => ⟨_, rfl, hv, ht⟩) (fun q hq => absurd hq List.not_mem_nil) dX4_reachOf_30
  · intro r7 eo
    subst eo
    try dsimp only at h
    exact Option.some.inj h
def mX4_leastNoSquare_b2 (N : Nat) (a0 : Int32) (st : Int32) : Option ((Int32) ⊕ ((Int32) ⊕ (Int32))) :=
  match st with
  | x1 => if (a0 - 1) ≤ x1 then some (.inr (.inl x1)) else mi_let ((a0 - 1) / 2) (fun v4 => (mX4_raised N x1 v4.toInt64 a0).bind (fun r5 => if r5 = 1 then mi_let (x1 + 1) (fun v7 => some (.inl v7)) else some (.inr (.inl x1))))
def mX4_leastNoSquare (N : Nat) (a0 : Int32) : Option (Int32) := (mi_run (mX4_leastNoSquare_b2 N a0) N 2).bind (fun o8 => match o8 with | .inl y2 => some y2 | .inr r9 => some r9)
abbrev rmX4_leastNoSquare : Room := { frames := 1, cells := 0, slots := 0, locals := 28 }
set_option maxHeartbeats 4000000 in
set_option maxRecDepth 100000 in
theorem ctX4_leastNoSquare (l : Launch) (N : Nat) (a0 : Int32) (rr : Int32) (h : mX4_leastNoSquare N a0 = some rr) : Met l yX4_leastNoSquare wsX4_leastNoSquare rmX4_leastNoSquare (fun v _ => v = ([.int a0] : List Value).toArray) (vp_Si (fun r => r = rr)) 0 0 (fun _ => False) := by
  refine Met.ofW (cc := cX4_leastNoSquare) (maxL := 2) (ret := (some .int)) (by decide) rfl ?_
  intro p e s m args below meth c s₁ B hml hv
  subst hv
  have hx := B.exec
  have hb := B.bytes
  have hr := B.returns
  have hts := atoms_spec (ws := wsX4_leastNoSquare) B.pre
  have hown : s.vm.findClass RX4 = some m.cls := findClass_of_methodNamed B.named
  have hlocks := B.notSynchronized
  have hl := lv_entry ([.int a0]) (n := 2) (Nat.le_of_ble_eq_true rfl)
  rw [lg_entry_eq]
  generalize (lg_sl ([.int a0]) ++ List.replicate (2 - (lg_sl ([.int a0])).length) Slot.unset).toArray = ls at hl ⊢
  have hl : lv_has ls 2 [(0, .int a0)] := hl
  dsimp only [mX4_leastNoSquare] at h
  refine lv_iconst (v := 2) hx hb dX4_leastNoSquare_0 (by decide) ?_
  refine lv_istore_n (lv' := [(1, .int 2), (0, .int a0)]) hx hb dX4_leastNoSquare_1 rfl hl (by decide) rfl (fun ls hl => ?_)
  have L2 : ∀ (n : Nat) (x1 : Int32) (o : (Int32) ⊕ (Int32)), mi_run (mX4_leastNoSquare_b2 N a0) n x1 = some o → (∀ (y2 : Int32), o = .inl y2 → ∀ ls, lv_has ls 2 [(1, .int y2), (0, .int a0)] → W p l e (headSpec wsX4_leastNoSquare rmX4_leastNoSquare).room s m (([.int a0] : List Value).toArray) below meth c s.heap [] 0 0 (MQ below (vp_Si (fun r => r = rr)) (([.int a0] : List Value).toArray) s 0 0 (fun _ => False)) (F0 m 33 ls [])) → (∀ v : Int32, o = .inr v → v = rr) → ∀ ls, lv_has ls 2 [(1, .int x1), (0, .int a0)] → W p l e (headSpec wsX4_leastNoSquare rmX4_leastNoSquare).room s m (([.int a0] : List Value).toArray) below meth c s.heap [] 0 0 (MQ below (vp_Si (fun r => r = rr)) (([.int a0] : List Value).toArray) s 0 0 (fun _ => False)) (F0 m 2 ls []) := by
    intro n
    induction n with
    | zero => intro x1 o h; exact absurd h (mi_run_0 _ _ _)
    | succ n ih =>
      intro x1 o h hkE hkR ls hl
      obtain ⟨w, h, hA, hB⟩ := mi_run_s h
      dsimp only [mX4_leastNoSquare_b2] at h
      refine lv_iload_n hx hb dX4_leastNoSquare_2 rfl (lv_at hl 0 rfl) ?_
      refine lv_iload_n hx hb dX4_leastNoSquare_3 rfl (lv_at hl 1 rfl) ?_
      refine lv_iconst (v := 1) hx hb dX4_leastNoSquare_4 (by decide) ?_
      refine lv_isub hx hb dX4_leastNoSquare_5 ?_
      refine lv_icmp_ge (tgt := 33) hx hb dX4_leastNoSquare_6 (by decide) (fun c3 => ?_) (fun c3 => ?_)
      · replace h := (if_pos c3).symm.trans h
        exact hkE _ (hB _ (Option.some.inj h).symm) ls (lv_sub hl [0, 1] rfl)
      · replace h := (if_neg c3).symm.trans h
        refine lv_iload_n hx hb dX4_leastNoSquare_9 rfl (lv_at hl 0 rfl) ?_
        refine lv_iload_n hx hb dX4_leastNoSquare_10 rfl (lv_at hl 1 rfl) ?_
        refine lv_iconst (v := 1) hx hb dX4_leastNoSquare_11 (by decide) ?_
        refine lv_isub hx hb dX4_leastNoSquare_12 ?_
        refine lv_iconst (v := 2) hx hb dX4_leastNoSquare_13 (by decide) ?_
        refine lv_idiv hx hb dX4_leastNoSquare_14 (by decide) ?_
        refine lv_topi (fun v4 ev4 => ?_)
        replace h := mi_use ev4 h
        refine lv_i2l hx hb dX4_leastNoSquare_15 rfl ?_
        refine lv_iload_n hx hb dX4_leastNoSquare_16 rfl (lv_at hl 1 rfl) ?_
        obtain ⟨r5, hr5, h⟩ := Option.bind_eq_some_iff.mp h
        refine vp_callSi (W.runS (As := [.int x1, .long v4.toInt64, .int a0]) (rest := []) ⟨hx, hb, hml, hown, hts⟩ (ctX4_raised l N  x1 v4.toInt64 a0 r5 hr5) (va_cwS 3 hts gX4_leastNoSquare_X4_raised rfl rfl rfl (by decide +kernel) ⟨Nat.le_of_ble_eq_true rfl, Nat.le_of_ble_eq_true rfl⟩) preEq rfl rfl hl.1 rfl (lv_room (Nat.le_of_ble_eq_true rfl)) dX4_leastNoSquare_17 ⟨Nat.le_of_ble_eq_true rfl, Nat.le_of_ble_eq_true rfl⟩) (fun q9 eq9 => ?_)
        subst q9
        refine lv_iconst (v := 1) hx hb dX4_leastNoSquare_20 (by decide) ?_
        refine lv_icmp_eq (tgt := 27) hx hb dX4_leastNoSquare_21 (by decide) (fun c6 => ?_) (fun c6 => ?_)
        · replace h := (if_pos c6).symm.trans h
          obtain ⟨v7, ev7⟩ : ∃ z : Int32, z = x1 + 1 := ⟨_, rfl⟩
          refine lv_iinc (v := v7) (lv' := [(1, .int v7), (0, .int a0)]) hx hb dX4_leastNoSquare_27 hl (k := 0) rfl (by rw [ev7]; rfl) (by decide) rfl (fun ls hl => ?_)
          replace h := mi_use ev7 h
          refine lv_goto (tgt := 2) hx hb dX4_leastNoSquare_30 (by decide) ?_
          exact ih _ _ (hA _ (Option.some.inj h).symm) hkE hkR ls (lv_sub hl [0, 1] rfl)
        · replace h := (if_neg c6).symm.trans h
          refine lv_goto (tgt := 33) hx hb dX4_leastNoSquare_24 (by decide) ?_
          exact hkE _ (hB _ (Option.some.inj h).symm) ls (lv_sub hl [0, 1] rfl)
  obtain ⟨o8, ho8, h⟩ := Option.bind_eq_some_iff.mp h
  refine L2 N _ o8 ho8 ?_ ?_ ls (lv_sub hl [0, 1] rfl)
  · intro y2 eo ls hl
    subst eo
    try dsimp only at h
    refine lv_iload_n hx hb dX4_leastNoSquare_33 rfl (lv_at hl 0 rfl) ?_
    have hv : y2 = rr := Option.some.inj h
    exact W.iret (v := y2) hx hb hr (fun t ht hW => ⟨_, rfl, hv, ht⟩) (fun q hq => absurd hq List.not_mem_nil) dX4_leastNoSquare_34
  · intro r9 eo
    subst eo
    try dsimp only at h
    exact Option.some.inj h
def mX4_generates_b6 (N : Nat) (a1 : Int32) (a0 : Int32) (st : Int32 × Int32) : Option ((Int32 × Int32) ⊕ ((Int32 × Int32) ⊕ (Int32))) :=
  match st with
  | (x2, x3) => if 32 ≤ x3 then some (.inr (.inl (x2, x3))) else if x2 ≤ 1 then some (.inr (.inl (x2, x3))) else (mX4_leastFactor N x2).bind (fun r8 => if r8 = 0 then none else mi_let ((a1 - 1) / r8) (fun v10 => (mX4_raised N a0 v10.toInt64 a1).bind (fun r11 => if r11 = 1 then some (.inr (.inr 0)) else (mX4_partOf N x2 r8).bind (fun r13 => if r13 = 0 then none else mi_let (x2 / r13) (fun v15 => mi_let (x3 + 1) (fun v16 => some (.inl (v15, v16))))))))
def mX4_generates (N : Nat) (a0 : Int32) (a1 : Int32) : Option (Int32) := mi_let (a1 - 1) (fun v1 => (mi_run (mX4_generates_b6 N a1 a0) N (v1, 0)).bind (fun o17 => match o17 with | .inl (y4, y5) => some 1 | .inr r18 => some r18))
abbrev rmX4_generates : Room := { frames := 1, cells := 0, slots := 0, locals := 28 }
set_option maxHeartbeats 4000000 in
set_option maxRecDepth 100000 in
theorem ctX4_generates (l : Launch) (N : Nat) (a0 : Int32) (a1 : Int32) (rr : Int32) (h : mX4_generates N a0 a1 = some rr) : Met l yX4_generates wsX4_generates rmX4_generates (fun v _ => v = ([.int a0, .int a1] : List Value).toArray) (vp_Si (fun r => r = rr)) 0 0 (fun _ => False) := by
  refine Met.ofW (cc := cX4_generates) (maxL := 5) (ret := (some .boolean)) (by decide) rfl ?_
  intro p e s m args below meth c s₁ B hml hv
  subst hv
  have hx := B.exec
  have hb := B.bytes
  have hr := B.returns
  have hts := atoms_spec (ws := wsX4_generates) B.pre
  have hown : s.vm.findClass RX4 = some m.cls := findClass_of_methodNamed B.named
  have hlocks := B.notSynchronized
  have hl := lv_entry ([.int a0, .int a1]) (n := 5) (Nat.le_of_ble_eq_true rfl)
  rw [lg_entry_eq]
  generalize (lg_sl ([.int a0, .int a1]) ++ List.replicate (5 - (lg_sl ([.int a0, .int a1])).length) Slot.unset).toArray = ls at hl ⊢
  have hl : lv_has ls 5 [(0, .int a0), (1, .int a1)] := hl
  dsimp only [mX4_generates] at h
  refine lv_iload_n hx hb dX4_generates_0 rfl (lv_at hl 1 rfl) ?_
  refine lv_iconst (v := 1) hx hb dX4_generates_1 (by decide) ?_
  refine lv_isub hx hb dX4_generates_2 ?_
  refine lv_topi (fun v1 ev1 => ?_)
  replace h := mi_use ev1 h
  refine lv_istore_n (lv' := [(2, .int v1), (0, .int a0), (1, .int a1)]) hx hb dX4_generates_3 rfl hl (by decide) rfl (fun ls hl => ?_)
  refine lv_iconst (v := 0) hx hb dX4_generates_4 (by decide) ?_
  refine lv_istore_n (lv' := [(3, .int 0), (2, .int v1), (0, .int a0), (1, .int a1)]) hx hb dX4_generates_5 rfl hl (by decide) rfl (fun ls hl => ?_)
  have L6 : ∀ (n : Nat) (x2 : Int32) (x3 : Int32) (o : (Int32 × Int32) ⊕ (Int32)), mi_run (mX4_generates_b6 N a1 a0) n (x2, x3) = some o → (∀ (y4 : Int32) (y5 : Int32), o = .inl (y4, y5) → ∀ ls, lv_has ls 5 [(2, .int y4), (3, .int y5), (0, .int a0), (1, .int a1)] → W p l e (headSpec wsX4_generates rmX4_generates).room s m (([.int a0, .int a1] : List Value).toArray) below meth c s.heap [] 0 0 (MQ below (vp_Si (fun r => r = rr)) (([.int a0, .int a1] : List Value).toArray) s 0 0 (fun _ => False)) (F0 m 56 ls [])) → (∀ v : Int32, o = .inr v → v = rr) → ∀ ls, lv_has ls 5 [(2, .int x2), (3, .int x3), (0, .int a0), (1, .int a1)] → W p l e (headSpec wsX4_generates rmX4_generates).room s m (([.int a0, .int a1] : List Value).toArray) below meth c s.heap [] 0 0 (MQ below (vp_Si (fun r => r = rr)) (([.int a0, .int a1] : List Value).toArray) s 0 0 (fun _ => False)) (F0 m 6 ls []) := by
    intro n
    induction n with
    | zero => intro x2 x3 o h; exact absurd h (mi_run_0 _ _ _)
    | succ n ih =>
      intro x2 x3 o h hkE hkR ls hl
      obtain ⟨w, h, hA, hB⟩ := mi_run_s h
      dsimp only [mX4_generates_b6] at h
      refine lv_iload_n hx hb dX4_generates_6 rfl (lv_at hl 1 rfl) ?_
      refine lv_bipush (v := 32) hx hb dX4_generates_7 (by decide) ?_
      refine lv_icmp_ge (tgt := 56) hx hb dX4_generates_9 (by decide) (fun c6 => ?_) (fun c6 => ?_)
      · replace h := (if_pos c6).symm.trans h
        exact hkE _ _ (hB _ (Option.some.inj h).symm) ls (lv_sub hl [0, 1, 2, 3] rfl)
      · replace h := (if_neg c6).symm.trans h
        refine lv_iload_n hx hb dX4_generates_12 rfl (lv_at hl 0 rfl) ?_
        refine lv_iconst (v := 1) hx hb dX4_generates_13 (by decide) ?_
        refine lv_icmp_le (tgt := 56) hx hb dX4_generates_14 (by decide) (fun c7 => ?_) (fun c7 => ?_)
        · replace h := (if_pos c7).symm.trans h
          exact hkE _ _ (hB _ (Option.some.inj h).symm) ls (lv_sub hl [0, 1, 2, 3] rfl)
        · replace h := (if_neg c7).symm.trans h
          refine lv_iload_n hx hb dX4_generates_17 rfl (lv_at hl 0 rfl) ?_
          obtain ⟨r8, hr8, h⟩ := Option.bind_eq_some_iff.mp h
          refine vp_callSi (W.runS (As := [.int x2]) (rest := []) ⟨hx, hb, hml, hown, hts⟩ (ctX4_leastFactor l N  x2 r8 hr8) (va_cwS 1 hts gX4_generates_X4_leastFactor rfl rfl rfl (by decide +kernel) ⟨Nat.le_of_ble_eq_true rfl, Nat.le_of_ble_eq_true rfl⟩) preEq rfl rfl hl.1 rfl (lv_room (Nat.le_of_ble_eq_true rfl)) dX4_generates_18 ⟨Nat.le_of_ble_eq_true rfl, Nat.le_of_ble_eq_true rfl⟩) (fun q9 eq9 => ?_)
          subst q9
          refine lv_istore (lv' := [(4, .int r8), (2, .int x2), (3, .int x3), (0, .int a0), (1, .int a1)]) hx hb dX4_generates_21 hl (by decide) rfl (fun ls hl => ?_)
          refine lv_iload_n hx hb dX4_generates_23 rfl (lv_at hl 3 rfl) ?_
          refine lv_iload_n hx hb dX4_generates_24 rfl (lv_at hl 4 rfl) ?_
          refine lv_iconst (v := 1) hx hb dX4_generates_25 (by decide) ?_
          refine lv_isub hx hb dX4_generates_26 ?_
          refine lv_iload hx hb dX4_generates_27 (lv_at hl 0 rfl) ?_
          have hn9 : ¬ r8 = 0 := fun hz => absurd ((if_pos hz).symm.trans h) (fun hh => nomatch hh)
          replace h := (if_neg hn9).symm.trans h
          refine lv_idiv hx hb dX4_generates_29 hn9 ?_
          refine lv_topi (fun v10 ev10 => ?_)
          replace h := mi_use ev10 h
          refine lv_i2l hx hb dX4_generates_30 rfl ?_
          refine lv_iload_n hx hb dX4_generates_31 rfl (lv_at hl 4 rfl) ?_
          obtain ⟨r11, hr11, h⟩ := Option.bind_eq_some_iff.mp h
          refine vp_callSi (W.runS (As := [.int a0, .long v10.toInt64, .int a1]) (rest := []) ⟨hx, hb, hml, hown, hts⟩ (ctX4_raised l N  a0 v10.toInt64 a1 r11 hr11) (va_cwS 3 hts gX4_generates_X4_raised rfl rfl rfl (by decide +kernel) ⟨Nat.le_of_ble_eq_true rfl, Nat.le_of_ble_eq_true rfl⟩) preEq rfl rfl hl.1 rfl (lv_room (Nat.le_of_ble_eq_true rfl)) dX4_generates_32 ⟨Nat.le_of_ble_eq_true rfl, Nat.le_of_ble_eq_true rfl⟩) (fun q9 eq9 => ?_)
          subst q9
          refine lv_iconst (v := 1) hx hb dX4_generates_35 (by decide) ?_
          refine lv_icmp_ne (tgt := 41) hx hb dX4_generates_36 (by decide) (fun c12 => ?_) (fun c12 => ?_)
          · replace h := (if_neg c12).symm.trans h
            refine lv_iload_n hx hb dX4_generates_41 rfl (lv_at hl 1 rfl) ?_
            refine lv_iload_n hx hb dX4_generates_42 rfl (lv_at hl 1 rfl) ?_
            refine lv_iload hx hb dX4_generates_43 (lv_at hl 0 rfl) ?_
            obtain ⟨r13, hr13, h⟩ := Option.bind_eq_some_iff.mp h
            refine vp_callSi (W.runS (As := [.int x2, .int r8]) (rest := [.int x2]) ⟨hx, hb, hml, hown, hts⟩ (ctX4_partOf l N  x2 r8 r13 hr13) (va_cwS 2 hts gX4_generates_X4_partOf rfl rfl rfl (by decide +kernel) ⟨Nat.le_of_ble_eq_true rfl, Nat.le_of_ble_eq_true rfl⟩) preEq rfl rfl hl.1 rfl (lv_room (Nat.le_of_ble_eq_true rfl)) dX4_generates_45 ⟨Nat.le_of_ble_eq_true rfl, Nat.le_of_ble_eq_true rfl⟩) (fun q9 eq9 => ?_)
            subst q9
            have hn14 : ¬ r13 = 0 := fun hz => absurd ((if_pos hz).symm.trans h) (fun hh => nomatch hh)
            replace h := (if_neg hn14).symm.trans h
            refine lv_idiv hx hb dX4_generates_48 hn14 ?_
            refine lv_topi (fun v15 ev15 => ?_)
            replace h := mi_use ev15 h
            refine lv_istore_n (lv' := [(2, .int v15), (4, .int r8), (3, .int x3), (0, .int a0), (1, .int a1)]) hx hb dX4_generates_49 rfl hl (by decide) rfl (fun ls hl => ?_)
            obtain ⟨v16, ev16⟩ : ∃ z : Int32, z = x3 + 1 := ⟨_, rfl⟩
            refine lv_iinc (v := v16) (lv' := [(3, .int v16), (2, .int v15), (4, .int r8), (0, .int a0), (1, .int a1)]) hx hb dX4_generates_50 hl (k := 2) rfl (by rw [ev16]; rfl) (by decide) rfl (fun ls hl => ?_)
            replace h := mi_use ev16 h
            refine lv_goto (tgt := 6) hx hb dX4_generates_53 (by decide) ?_
            exact ih _ _ _ (hA _ (Option.some.inj h).symm) hkE hkR ls (lv_sub hl [1, 0, 3, 4] rfl)
          · replace h := (if_pos c12).symm.trans h
            refine lv_iconst (v := 0) hx hb dX4_generates_39 (by decide) ?_
            have hv : 0 = rr := hkR _ (hB _ (Option.some.inj h).symm)
            exact W.zret (v := 0) hx hb hr (by decide) (fun t ht hW => ⟨_, rfl, hv, ht⟩) (fun q hq => absurd hq List.not_mem_nil) dX4_generates_40
  obtain ⟨o17, ho17, h⟩ := Option.bind_eq_some_iff.mp h
  refine L6 N _ _ o17 ho17 ?_ ?_ ls (lv_sub hl [1, 0, 2, 3] rfl)
  · intro y4 y5 eo ls hl
    subst eo
    try dsimp only at h
    refine lv_iconst (v := 1) hx hb dX4_generates_56 (by decide) ?_
    have hv : 1 = rr := Option.some.inj h
    exact W.zret (v := 1) hx hb hr (by decide) (fun t ht hW => ⟨_, rfl, hv, ht⟩) (fun q hq => absurd hq List.not_mem_nil) dX4_generates_57
  · intro r18 eo
    subst eo
    try dsimp only at h
    exact Option.some.inj h
def mX4_orderModulo_b15 (N : Nat) (a1 : Int32) (a0 : Int32) (st : Int32 × Int32) : Option ((Int32 × Int32) ⊕ ((Int32 × Int32) ⊕ (Int32))) :=
  match st with
  | (x3, x4) => if a1 ≤ x4 then some (.inr (.inl (x3, x4))) else if x3 = 1 then some (.inr (.inr x4)) else if a1 = 0 then none else mi_let (mi_rem (x3 * a0) a1) (fun v10 => mi_let (x4 + 1) (fun v11 => some (.inl (v10, v11))))
def mX4_orderModulo (N : Nat) (a0 : Int32) (a1 : Int32) : Option (Int32) := (mX4_commonPart N a1 a0).bind (fun r1 => if r1 = 1 then (mi_run (mX4_orderModulo_b15 N a1 a0) N (a0, 1)).bind (fun o12 => match o12 with | .inl (y5, y6) => some (-1) | .inr r13 => some r13) else some (-1))
abbrev rmX4_orderModulo : Room := { frames := 1, cells := 0, slots := 0, locals := 25 }
set_option maxHeartbeats 4000000 in
set_option maxRecDepth 100000 in
theorem ctX4_orderModulo (l : Launch) (N : Nat) (a0 : Int32) (a1 : Int32) (rr : Int32) (h : mX4_orderModulo N a0 a1 = some rr) : Met l yX4_orderModulo wsX4_orderModulo rmX4_orderModulo (fun v _ => v = ([.int a0, .int a1] : List Value).toArray) (vp_Si (fun r => r = rr)) 0 0 (fun _ => False) := by
  refine Met.ofW (cc := cX4_orderModulo) (maxL := 4) (ret := (some .int)) (by decide) rfl ?_
  intro p e s m args below meth c s₁ B hml hv
  subst hv
  have hx := B.exec
  have hb := B.bytes
  have hr := B.returns
  have hts := atoms_spec (ws := wsX4_orderModulo) B.pre
  have hown : s.vm.findClass RX4 = some m.cls := findClass_of_methodNamed B.named
  have hlocks := B.notSynchronized
  have hl := lv_entry ([.int a0, .int a1]) (n := 4) (Nat.le_of_ble_eq_true rfl)
  rw [lg_entry_eq]
  generalize (lg_sl ([.int a0, .int a1]) ++ List.replicate (4 - (lg_sl ([.int a0, .int a1])).length) Slot.unset).toArray = ls at hl ⊢
  have hl : lv_has ls 4 [(0, .int a0), (1, .int a1)] := hl
  dsimp only [mX4_orderModulo] at h
  refine lv_iload_n hx hb dX4_orderModulo_0 rfl (lv_at hl 1 rfl) ?_
  refine lv_iload_n hx hb dX4_orderModulo_1 rfl (lv_at hl 0 rfl) ?_
  obtain ⟨r1, hr1, h⟩ := Option.bind_eq_some_iff.mp h
  refine vp_callSi (W.runS (As := [.int a1, .int a0]) (rest := []) ⟨hx, hb, hml, hown, hts⟩ (ctX4_commonPart l N  a1 a0 r1 hr1) (va_cwS 2 hts gX4_orderModulo_X4_commonPart rfl rfl rfl (by decide +kernel) ⟨Nat.le_of_ble_eq_true rfl, Nat.le_of_ble_eq_true rfl⟩) preEq rfl rfl hl.1 rfl (lv_room (Nat.le_of_ble_eq_true rfl)) dX4_orderModulo_2 ⟨Nat.le_of_ble_eq_true rfl, Nat.le_of_ble_eq_true rfl⟩) (fun q9 eq9 => ?_)
  subst q9
  refine lv_iconst (v := 1) hx hb dX4_orderModulo_5 (by decide) ?_
  refine lv_icmp_eq (tgt := 11) hx hb dX4_orderModulo_6 (by decide) (fun c2 => ?_) (fun c2 => ?_)
  · replace h := (if_pos c2).symm.trans h
    refine lv_iload_n hx hb dX4_orderModulo_11 rfl (lv_at hl 0 rfl) ?_
    refine lv_istore_n (lv' := [(2, .int a0), (0, .int a0), (1, .int a1)]) hx hb dX4_orderModulo_12 rfl hl (by decide) rfl (fun ls hl => ?_)
    refine lv_iconst (v := 1) hx hb dX4_orderModulo_13 (by decide) ?_
    refine lv_istore_n (lv' := [(3, .int 1), (2, .int a0), (0, .int a0), (1, .int a1)]) hx hb dX4_orderModulo_14 rfl hl (by decide) rfl (fun ls hl => ?_)
    have L15 : ∀ (n : Nat) (x3 : Int32) (x4 : Int32) (o : (Int32 × Int32) ⊕ (Int32)), mi_run (mX4_orderModulo_b15 N a1 a0) n (x3, x4) = some o → (∀ (y5 : Int32) (y6 : Int32), o = .inl (y5, y6) → ∀ ls, lv_has ls 4 [(2, .int y5), (3, .int y6), (0, .int a0), (1, .int a1)] → W p l e (headSpec wsX4_orderModulo rmX4_orderModulo).room s m (([.int a0, .int a1] : List Value).toArray) below meth c s.heap [] 0 0 (MQ below (vp_Si (fun r => r = rr)) (([.int a0, .int a1] : List Value).toArray) s 0 0 (fun _ => False)) (F0 m 39 ls [])) → (∀ v : Int32, o = .inr v → v = rr) → ∀ ls, lv_has ls 4 [(2, .int x3), (3, .int x4), (0, .int a0), (1, .int a1)] → W p l e (headSpec wsX4_orderModulo rmX4_orderModulo).room s m (([.int a0, .int a1] : List Value).toArray) below meth c s.heap [] 0 0 (MQ below (vp_Si (fun r => r = rr)) (([.int a0, .int a1] : List Value).toArray) s 0 0 (fun _ => False)) (F0 m 15 ls []) := by
      intro n
      induction n with
      | zero => intro x3 x4 o h; exact absurd h (mi_run_0 _ _ _)
      | succ n ih =>
        intro x3 x4 o h hkE hkR ls hl
        obtain ⟨w, h, hA, hB⟩ := mi_run_s h
        dsimp only [mX4_orderModulo_b15] at h
        refine lv_iload_n hx hb dX4_orderModulo_15 rfl (lv_at hl 1 rfl) ?_
        refine lv_iload_n hx hb dX4_orderModulo_16 rfl (lv_at hl 3 rfl) ?_
        refine lv_icmp_ge (tgt := 39) hx hb dX4_orderModulo_17 (by decide) (fun c7 => ?_) (fun c7 => ?_)
        · replace h := (if_pos c7).symm.trans h
          exact hkE _ _ (hB _ (Option.some.inj h).symm) ls (lv_sub hl [0, 1, 2, 3] rfl)
        · replace h := (if_neg c7).symm.trans h
          refine lv_iload_n hx hb dX4_orderModulo_20 rfl (lv_at hl 0 rfl) ?_
          refine lv_iconst (v := 1) hx hb dX4_orderModulo_21 (by decide) ?_
          refine lv_icmp_ne (tgt := 27) hx hb dX4_orderModulo_22 (by decide) (fun c8 => ?_) (fun c8 => ?_)
          · replace h := (if_neg c8).symm.trans h
            refine lv_iload_n hx hb dX4_orderModulo_27 rfl (lv_at hl 0 rfl) ?_
            refine lv_iload_n hx hb dX4_orderModulo_28 rfl (lv_at hl 2 rfl) ?_
            refine lv_imul hx hb dX4_orderModulo_29 ?_
            refine lv_iload_n hx hb dX4_orderModulo_30 rfl (lv_at hl 3 rfl) ?_
            have hn9 : ¬ a1 = 0 := fun hz => absurd ((if_pos hz).symm.trans h) (fun hh => nomatch hh)
            replace h := (if_neg hn9).symm.trans h
            refine lv_irem hx hb dX4_orderModulo_31 hn9 ?_
            refine lv_topi (fun v10 ev10 => ?_)
            replace h := mi_use ev10 h
            refine lv_istore_n (lv' := [(2, .int v10), (3, .int x4), (0, .int a0), (1, .int a1)]) hx hb dX4_orderModulo_32 rfl hl (by decide) rfl (fun ls hl => ?_)
            obtain ⟨v11, ev11⟩ : ∃ z : Int32, z = x4 + 1 := ⟨_, rfl⟩
            refine lv_iinc (v := v11) (lv' := [(3, .int v11), (2, .int v10), (0, .int a0), (1, .int a1)]) hx hb dX4_orderModulo_33 hl (k := 1) rfl (by rw [ev11]; rfl) (by decide) rfl (fun ls hl => ?_)
            replace h := mi_use ev11 h
            refine lv_goto (tgt := 15) hx hb dX4_orderModulo_36 (by decide) ?_
            exact ih _ _ _ (hA _ (Option.some.inj h).symm) hkE hkR ls (lv_sub hl [1, 0, 2, 3] rfl)
          · replace h := (if_pos c8).symm.trans h
            refine lv_iload_n hx hb dX4_orderModulo_25 rfl (lv_at hl 1 rfl) ?_
            have hv : x4 = rr := hkR _ (hB _ (Option.some.inj h).symm)
            exact W.iret (v := x4) hx hb hr (fun t ht hW => ⟨_, rfl, hv, ht⟩) (fun q hq => absurd hq List.not_mem_nil) dX4_orderModulo_26
    obtain ⟨o12, ho12, h⟩ := Option.bind_eq_some_iff.mp h
    refine L15 N _ _ o12 ho12 ?_ ?_ ls (lv_sub hl [1, 0, 2, 3] rfl)
    · intro y5 y6 eo ls hl
      subst eo
      try dsimp only at h
      refine lv_iconst (v := (-1)) hx hb dX4_orderModulo_39 (by decide) ?_
      have hv : (-1) = rr := Option.some.inj h
      exact W.iret (v := (-1)) hx hb hr (fun t ht hW => ⟨_, rfl, hv, ht⟩) (fun q hq => absurd hq List.not_mem_nil) dX4_orderModulo_40
    · intro r13 eo
      subst eo
      try dsimp only at h
      exact Option.some.inj h
  · replace h := (if_neg c2).symm.trans h
    refine lv_iconst (v := (-1)) hx hb dX4_orderModulo_9 (by decide) ?_
    have hv : (-1) = rr := Option.some.inj h
    exact W.iret (v := (-1)) hx hb hr (fun t ht hW => ⟨_, rfl, hv, ht⟩) (fun q hq => absurd hq List.not_mem_nil) dX4_orderModulo_10
def mJ9_floorMod_7cf53 (N : Nat) (a0 : Int32) (a1 : Int32) : Option (Int32) := if a1 = 0 then none else mi_let (mi_rem a0 a1) (fun v2 => if 0 ≤ (a0 ^^^ a1) then some v2 else if v2 = 0 then some v2 else some (v2 + a1))
abbrev rmJ9_floorMod_7cf53 : Room := { frames := 0, cells := 0, slots := 0, locals := 0 }
set_option maxHeartbeats 4000000 in
set_option maxRecDepth 100000 in
theorem ctJ9_floorMod_7cf53 (l : Launch) (N : Nat) (a0 : Int32) (a1 : Int32) (rr : Int32) (h : mJ9_floorMod_7cf53 N a0 a1 = some rr) : Met l yJ9_floorMod_7cf53 wsJ9_floorMod_7cf53 rmJ9_floorMod_7cf53 (fun v _ => v = ([.int a0, .int a1] : List Value).toArray) (vp_Si (fun r => r = rr)) 0 0 (fun _ => False) := by
  refine va_MetF (cc := cJ9_floorMod_7cf53) (maxL := 3) (ret := (some .int)) (by decide +kernel) rfl ?_
  intro p e s m args below meth c s₁ B hml hv
  subst hv
  have hx := B.exec
  have hb := B.bytes
  have hr := B.returns
  have hts := atoms_spec (ws := wsJ9_floorMod_7cf53) B.pre
  have hown : s.vm.findClass RJ9 = some m.cls := findClass_of_methodNamed B.named
  have hlocks := B.notSynchronized
  have hl := lv_entry ([.int a0, .int a1]) (n := 3) (Nat.le_of_ble_eq_true rfl)
  rw [lg_entry_eq]
  generalize (lg_sl ([.int a0, .int a1]) ++ List.replicate (3 - (lg_sl ([.int a0, .int a1])).length) Slot.unset).toArray = ls at hl ⊢
  have hl : lv_has ls 3 [(0, .int a0), (1, .int a1)] := hl
  dsimp only [mJ9_floorMod_7cf53] at h
  refine lv_iload_n hx hb dJ9_floorMod_7cf53_0 rfl (lv_at hl 0 rfl) ?_
  refine lv_iload_n hx hb dJ9_floorMod_7cf53_1 rfl (lv_at hl 1 rfl) ?_
  have hn1 : ¬ a1 = 0 := fun hz => absurd ((if_pos hz).symm.trans h) (fun hh => nomatch hh)
  replace h := (if_neg hn1).symm.trans h
  refine lv_irem hx hb dJ9_floorMod_7cf53_2 hn1 ?_
  refine lv_topi (fun v2 ev2 => ?_)
  replace h := mi_use ev2 h
  refine lv_istore_n (lv' := [(2, .int v2), (0, .int a0), (1, .int a1)]) hx hb dJ9_floorMod_7cf53_3 rfl hl (by decide) rfl (fun ls hl => ?_)
  refine lv_iload_n hx hb dJ9_floorMod_7cf53_4 rfl (lv_at hl 1 rfl) ?_
  refine lv_iload_n hx hb dJ9_floorMod_7cf53_5 rfl (lv_at hl 2 rfl) ?_
  refine lv_ixor hx hb dJ9_floorMod_7cf53_6 ?_
  refine lv_if_ge (tgt := 18) hx hb dJ9_floorMod_7cf53_7 (by decide) (fun c3 => ?_) (fun c3 => ?_)
  · replace h := (if_pos c3).symm.trans h
    refine lv_iload_n hx hb dJ9_floorMod_7cf53_18 rfl (lv_at hl 0 rfl) ?_
    have hv : v2 = rr := Option.some.inj h
    exact W.iret (v := v2) hx hb hr (fun t ht hW => ⟨_, rfl, hv, ht⟩) (fun q hq => absurd hq List.not_mem_nil) dJ9_floorMod_7cf53_19
  · replace h := (if_neg c3).symm.trans h
    refine lv_iload_n hx hb dJ9_floorMod_7cf53_10 rfl (lv_at hl 0 rfl) ?_
    refine lv_if_eq (tgt := 18) hx hb dJ9_floorMod_7cf53_11 (by decide) (fun c4 => ?_) (fun c4 => ?_)
    · replace h := (if_pos c4).symm.trans h
      refine lv_iload_n hx hb dJ9_floorMod_7cf53_18 rfl (lv_at hl 0 rfl) ?_
      have hv : v2 = rr := Option.some.inj h
      exact W.iret (v := v2) hx hb hr (fun t ht hW => ⟨_, rfl, hv, ht⟩) (fun q hq => absurd hq List.not_mem_nil) dJ9_floorMod_7cf53_19
    · replace h := (if_neg c4).symm.trans h
      refine lv_iload_n hx hb dJ9_floorMod_7cf53_14 rfl (lv_at hl 0 rfl) ?_
      refine lv_iload_n hx hb dJ9_floorMod_7cf53_15 rfl (lv_at hl 2 rfl) ?_
      refine lv_iadd hx hb dJ9_floorMod_7cf53_16 ?_
      have hv : v2 + a1 = rr := Option.some.inj h
      exact W.iret (v := (v2 + a1)) hx hb hr (fun t ht hW => ⟨_, rfl, hv, ht⟩) (fun q hq => absurd hq List.not_mem_nil) dJ9_floorMod_7cf53_17
def mX4_leastGenerator_b2 (N : Nat) (a0 : Int32) (st : Int32) : Option ((Int32) ⊕ ((Int32) ⊕ (Int32))) :=
  match st with
  | x1 => if (a0 - 1) ≤ x1 then some (.inr (.inl x1)) else (mX4_generates N x1 a0).bind (fun r4 => if r4 = 0 then mi_let (x1 + 1) (fun v6 => some (.inl v6)) else some (.inr (.inl x1)))
def mX4_leastGenerator (N : Nat) (a0 : Int32) : Option (Int32) := (mi_run (mX4_leastGenerator_b2 N a0) N 2).bind (fun o7 => match o7 with | .inl y2 => some y2 | .inr r8 => some r8)
abbrev rmX4_leastGenerator : Room := { frames := 2, cells := 0, slots := 0, locals := 52 }
set_option maxHeartbeats 4000000 in
set_option maxRecDepth 100000 in
theorem ctX4_leastGenerator (l : Launch) (N : Nat) (a0 : Int32) (rr : Int32) (h : mX4_leastGenerator N a0 = some rr) : Met l yX4_leastGenerator wsX4_leastGenerator rmX4_leastGenerator (fun v _ => v = ([.int a0] : List Value).toArray) (vp_Si (fun r => r = rr)) 0 0 (fun _ => False) := by
  refine Met.ofW (cc := cX4_leastGenerator) (maxL := 2) (ret := (some .int)) (by decide) rfl ?_
  intro p e s m args below meth c s₁ B hml hv
  subst hv
  have hx := B.exec
  have hb := B.bytes
  have hr := B.returns
  have hts := atoms_spec (ws := wsX4_leastGenerator) B.pre
  have hown : s.vm.findClass RX4 = some m.cls := findClass_of_methodNamed B.named
  have hlocks := B.notSynchronized
  have hl := lv_entry ([.int a0]) (n := 2) (Nat.le_of_ble_eq_true rfl)
  rw [lg_entry_eq]
  generalize (lg_sl ([.int a0]) ++ List.replicate (2 - (lg_sl ([.int a0])).length) Slot.unset).toArray = ls at hl ⊢
  have hl : lv_has ls 2 [(0, .int a0)] := hl
  dsimp only [mX4_leastGenerator] at h
  refine lv_iconst (v := 2) hx hb dX4_leastGenerator_0 (by decide) ?_
  refine lv_istore_n (lv' := [(1, .int 2), (0, .int a0)]) hx hb dX4_leastGenerator_1 rfl hl (by decide) rfl (fun ls hl => ?_)
  have L2 : ∀ (n : Nat) (x1 : Int32) (o : (Int32) ⊕ (Int32)), mi_run (mX4_leastGenerator_b2 N a0) n x1 = some o → (∀ (y2 : Int32), o = .inl y2 → ∀ ls, lv_has ls 2 [(1, .int y2), (0, .int a0)] → W p l e (headSpec wsX4_leastGenerator rmX4_leastGenerator).room s m (([.int a0] : List Value).toArray) below meth c s.heap [] 0 0 (MQ below (vp_Si (fun r => r = rr)) (([.int a0] : List Value).toArray) s 0 0 (fun _ => False)) (F0 m 26 ls [])) → (∀ v : Int32, o = .inr v → v = rr) → ∀ ls, lv_has ls 2 [(1, .int x1), (0, .int a0)] → W p l e (headSpec wsX4_leastGenerator rmX4_leastGenerator).room s m (([.int a0] : List Value).toArray) below meth c s.heap [] 0 0 (MQ below (vp_Si (fun r => r = rr)) (([.int a0] : List Value).toArray) s 0 0 (fun _ => False)) (F0 m 2 ls []) := by
    intro n
    induction n with
    | zero => intro x1 o h; exact absurd h (mi_run_0 _ _ _)
    | succ n ih =>
      intro x1 o h hkE hkR ls hl
      obtain ⟨w, h, hA, hB⟩ := mi_run_s h
      dsimp only [mX4_leastGenerator_b2] at h
      refine lv_iload_n hx hb dX4_leastGenerator_2 rfl (lv_at hl 0 rfl) ?_
      refine lv_iload_n hx hb dX4_leastGenerator_3 rfl (lv_at hl 1 rfl) ?_
      refine lv_iconst (v := 1) hx hb dX4_leastGenerator_4 (by decide) ?_
      refine lv_isub hx hb dX4_leastGenerator_5 ?_
      refine lv_icmp_ge (tgt := 26) hx hb dX4_leastGenerator_6 (by decide) (fun c3 => ?_) (fun c3 => ?_)
      · replace h := (if_pos c3).symm.trans h
        exact hkE _ (hB _ (Option.some.inj h).symm) ls (lv_sub hl [0, 1] rfl)
      · replace h := (if_neg c3).symm.trans h
        refine lv_iload_n hx hb dX4_leastGenerator_9 rfl (lv_at hl 0 rfl) ?_
        refine lv_iload_n hx hb dX4_leastGenerator_10 rfl (lv_at hl 1 rfl) ?_
        obtain ⟨r4, hr4, h⟩ := Option.bind_eq_some_iff.mp h
        refine vp_callSi (W.runS (As := [.int x1, .int a0]) (rest := []) ⟨hx, hb, hml, hown, hts⟩ (ctX4_generates l N  x1 a0 r4 hr4) (va_cwS 2 hts gX4_leastGenerator_X4_generates rfl rfl rfl (by decide +kernel) ⟨Nat.le_of_ble_eq_true rfl, Nat.le_of_ble_eq_true rfl⟩) preEq rfl rfl hl.1 rfl (lv_room (Nat.le_of_ble_eq_true rfl)) dX4_leastGenerator_11 ⟨Nat.le_of_ble_eq_true rfl, Nat.le_of_ble_eq_true rfl⟩) (fun q9 eq9 => ?_)
        subst q9
        refine lv_if_eq (tgt := 20) hx hb dX4_leastGenerator_14 (by decide) (fun c5 => ?_) (fun c5 => ?_)
        · replace h := (if_pos c5).symm.trans h
          obtain ⟨v6, ev6⟩ : ∃ z : Int32, z = x1 + 1 := ⟨_, rfl⟩
          refine lv_iinc (v := v6) (lv' := [(1, .int v6), (0, .int a0)]) hx hb dX4_leastGenerator_20 hl (k := 0) rfl (by rw [ev6]; rfl) (by decide) rfl (fun ls hl => ?_)
          replace h := mi_use ev6 h
          refine lv_goto (tgt := 2) hx hb dX4_leastGenerator_23 (by decide) ?_
          exact ih _ _ (hA _ (Option.some.inj h).symm) hkE hkR ls (lv_sub hl [0, 1] rfl)
        · replace h := (if_neg c5).symm.trans h
          refine lv_goto (tgt := 26) hx hb dX4_leastGenerator_17 (by decide) ?_
          exact hkE _ (hB _ (Option.some.inj h).symm) ls (lv_sub hl [0, 1] rfl)
  obtain ⟨o7, ho7, h⟩ := Option.bind_eq_some_iff.mp h
  refine L2 N _ o7 ho7 ?_ ?_ ls (lv_sub hl [0, 1] rfl)
  · intro y2 eo ls hl
    subst eo
    try dsimp only at h
    refine lv_iload_n hx hb dX4_leastGenerator_26 rfl (lv_at hl 0 rfl) ?_
    have hv : y2 = rr := Option.some.inj h
    exact W.iret (v := y2) hx hb hr (fun t ht hW => ⟨_, rfl, hv, ht⟩) (fun q hq => absurd hq List.not_mem_nil) dX4_leastGenerator_27
  · intro r8 eo
    subst eo
    try dsimp only at h
    exact Option.some.inj h
