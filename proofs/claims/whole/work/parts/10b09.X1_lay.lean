def mX1_lay_b22 (N : Nat) (a0 : Int32) (st : Int32 × (Nat → Int32)) : Option ((Int32 × (Nat → Int32)) ⊕ (Int32 × (Nat → Int32))) :=
  match st with
  | (x3, x4) => if a0 ≤ x3 then some (.inr (x3, x4)) else if x3 < 0 ∨ 10007 ≤ x3.toNatClampNeg then none else mi_let (upd x4 x3.toNatClampNeg (-1)) (fun f9 => mi_let (x3 + 1) (fun v10 => some (.inl (v10, f9))))
def mX1_lay_b44 (N : Nat) (a0 : Int32) (st : Int32 × (Nat → Int32)) : Option ((Int32 × (Nat → Int32)) ⊕ (Int32 × (Nat → Int32))) :=
  match st with
  | (x13, x14) => if x13 < 0 then some (.inr (x13, x14)) else if a0 = 0 then none else mi_let (mi_rem (x13 * x13) a0) (fun v19 => if v19 < 0 ∨ 10007 ≤ v19.toNatClampNeg then none else mi_let (upd x14 v19.toNatClampNeg x13) (fun f21 => mi_let (x13 + (-1)) (fun v22 => some (.inl (v22, f21)))))
def mX1_lay (N : Nat) (t_prime : Int32) (t_least : Nat → Int32) (a0 : Int32) : Option (Int32 × (Nat → Int32)) := if a0 < 5 then some (t_prime, t_least) else if a0 ≤ 10007 then (mi_run (mX1_lay_b22 N a0) N (0, t_least)).bind (fun o11 => match o11 with | (y5, y6) => mi_let (a0 / 2) (fun v12 => (mi_run (mX1_lay_b44 N a0) N (v12, y6)).bind (fun o23 => match o23 with | (y15, y16) => some (a0, y16)))) else some (t_prime, t_least)
abbrev rmX1_lay : Room := { frames := 0, cells := 0, slots := 0, locals := 0 }
set_option maxHeartbeats 4000000 in
set_option maxRecDepth 100000 in
theorem ctX1_lay (l : Launch) (N : Nat) (dC : Nat → ClassId) (dI : Nat → Nat → Nat) (sz : Nat) (h0 : Nat) (h0_least : Nat) (k_t_least : ClassId) (t_prime : Int32) (t_least : Nat → Int32) (a0 : Int32) (rr : Int32 × (Nat → Int32)) (h : mX1_lay N t_prime t_least a0 = some rr) : Met l yX1_lay wsX1_lay rmX1_lay (va_Pc [.ref h0, .int a0] (fun U => U.heap.size = sz ∧ va_P (dC, dI) vwCl [(h0, .inr (1, [.ref h0_least, .int t_prime])), (h0_least, .inl (k_t_least, 10007, .inl t_least))] U.heap ∧ va_K (dC, dI) vwCl [(k_t_least, .int)] U ∧ nw_all U ∧ va_D (fun _ => True) [(h0, .inr (1, [.ref h0_least, .int t_prime])), (h0_least, .inl (k_t_least, 10007, .inl t_least))])) (va_Qv (fun (u : Int32 × (Nat → Int32)) => u = rr) (fun (u : Int32 × (Nat → Int32)) t => match u with | (u0, u1) => va_P (dC, dI) vwCl [(h0, .inr (1, [.ref h0_least, .int u0])), (h0_least, .inl (k_t_least, 10007, .inl u1))] t.heap ∧ va_K (dC, dI) vwCl [(k_t_least, .int)] t ∧ va_D (va_A [(h0, .inr (1, [.ref h0_least, .int t_prime])), (h0_least, .inl (k_t_least, 10007, .inl t_least))] sz) [(h0, .inr (1, [.ref h0_least, .int u0])), (h0_least, .inl (k_t_least, 10007, .inl u1))]) (va_A [(h0, .inr (1, [.ref h0_least, .int t_prime])), (h0_least, .inl (k_t_least, 10007, .inl t_least))] sz)) 0 0 (va_A [(h0, .inr (1, [.ref h0_least, .int t_prime])), (h0_least, .inl (k_t_least, 10007, .inl t_least))] sz) := by
  refine Met.ofW (cc := cX1_lay) (maxL := 3) (ret := none) (by decide) rfl ?_
  intro p e s m args below meth c s₁ B hml hv
  obtain ⟨rfl, hsz, hP, hK, hN, hD0⟩ := hv
  have hx := B.exec
  have hb := B.bytes
  have hr := B.returns
  have hts := atoms_spec (ws := wsX1_lay) B.pre
  have hown : s.vm.findClass RX1 = some m.cls := findClass_of_methodNamed B.named
  have hlocks := B.notSynchronized
  subst hsz
  have hD := hD0.self (sz := s.heap.size)
  generalize hAe : va_A [(h0, .inr (1, [.ref h0_least, .int t_prime])), (h0_least, .inl (k_t_least, 10007, .inl t_least))] s.heap.size = A at hD ⊢
  have hA0 : ∀ q : Nat, s.heap.size ≤ q → A q := fun q h => by rw [← hAe]; exact Or.inr h
  have hS : va_S A s.heap s.heap [] := va_S.rf
  have hP : va_P (dC, dI) vwCl [(h0, .inr (1, [.ref h0_least, .int t_prime])), (h0_least, .inl (k_t_least, 10007, .inl t_least))] s.heap := hP
  have hl := lv_entry ([.ref h0, .int a0]) (n := 3) (Nat.le_of_ble_eq_true rfl)
  rw [lg_entry_eq]
  generalize (lg_sl ([.ref h0, .int a0]) ++ List.replicate (3 - (lg_sl ([.ref h0, .int a0])).length) Slot.unset).toArray = ls at hl ⊢
  have hl : lv_has ls 3 [(0, .ref h0), (1, .int a0)] := hl
  dsimp only [mX1_lay] at h
  refine lv_iload_n hx hb dX1_lay_0 rfl (lv_at hl 1 rfl) ?_
  refine lv_iconst (v := 5) hx hb dX1_lay_1 (by decide) ?_
  refine lv_icmp_lt (tgt := 14) hx hb dX1_lay_2 (by decide) (fun c1 => ?_) (fun c1 => ?_)
  · replace h := (if_pos c1).symm.trans h
    have hv : (t_prime, t_least) = rr := Option.some.inj h
    have hP9 := hP.sub (ws' := [(h0, .inr (1, [.ref h0_least, .int t_prime])), (h0_least, .inl (k_t_least, 10007, .inl t_least))]) [0, 1] rfl
    have hD9 := hD.sub (ws' := [(h0, .inr (1, [.ref h0_least, .int t_prime])), (h0_least, .inl (k_t_least, 10007, .inl t_least))]) [0, 1] (by decide) rfl
    have hK9 := hK.sub (tys' := [(k_t_least, .int)]) [0] rfl
    exact W.vret hx hb hr (fun t ht hW => ⟨⟨(t_prime, t_least), rfl, hv, by rw [ht]; exact hP9, va_K.moved hW.alike hK9, hD9⟩, hS.F ht⟩) hS.2.2 dX1_lay_14
  · replace h := (if_neg c1).symm.trans h
    refine lv_iload_n hx hb dX1_lay_5 rfl (lv_at hl 1 rfl) ?_
    refine lv_aload_n hx hb dX1_lay_6 rfl (lv_at hl 0 rfl) ?_
    refine va_get (D := (dC, dI)) (ci := 1) (v := .ref h0_least) (C := RX1) (T := TX1) (N := 2) hx hb hts (by decide +kernel) hown hK hP 0 rfl rfl 0 (by decide) (hts (.fieldLink RX1 9 "PointRings$Roots" "least" "[I") (by decide +kernel)) (fun _ h9 => h9) rfl dX1_lay_7 ?_
    refine va_alen (v := 10007) hx hb hK hP 1 0 rfl rfl rfl dX1_lay_10 ?_
    refine lv_icmp_le (tgt := 15) hx hb dX1_lay_11 (by decide) (fun c2 => ?_) (fun c2 => ?_)
    · replace h := (if_pos c2).symm.trans h
      refine lv_aload_n hx hb dX1_lay_15 rfl (lv_at hl 0 rfl) ?_
      refine lv_iload_n hx hb dX1_lay_16 rfl (lv_at hl 1 rfl) ?_
      refine va_put (D := (dC, dI)) (ci := 1) (v := .int a0) (ty := .int) (C := RX1) (T := TX1) (N := 2) hx hb hts (by decide +kernel) tyX1 tyX1_ok nmX1 hown hK hP hD hS 0 rfl rfl 1 (by decide) (hts (.fieldLink RX1 15 "PointRings$Roots" "prime" "I") (by decide +kernel)) (fun _ h9 => h9) rfl (by decide +kernel) rfl rfl (Nat.le_of_ble_eq_true rfl) dX1_lay_17 (fun H locs hP hD hS => ?_)
      have hP : va_P (dC, dI) vwCl [(h0, .inr (1, [.ref h0_least, .int a0])), (h0_least, .inl (k_t_least, 10007, .inl t_least))] H := hP
      have hD : va_D A [(h0, .inr (1, [.ref h0_least, .int a0])), (h0_least, .inl (k_t_least, 10007, .inl t_least))] := hD
      refine lv_iconst (v := 0) hx hb dX1_lay_20 (by decide) ?_
      refine lv_istore_n (lv' := [(2, .int 0), (0, .ref h0), (1, .int a0)]) hx hb dX1_lay_21 rfl hl (by decide) rfl (fun ls hl => ?_)
      have L22 : ∀ (n : Nat) (x3 : Int32) (x4 : Nat → Int32) (o : Int32 × (Nat → Int32)), mi_run (mX1_lay_b22 N a0) n (x3, x4) = some o → (∀ (y5 : Int32) (y6 : Nat → Int32), o = (y5, y6) → ∀ (H : Heap) (locs : List Loc) (ls : Array Slot), va_P (dC, dI) vwCl [(h0, .inr (1, [.ref h0_least, .int a0])), (h0_least, .inl (k_t_least, 10007, .inl y6))] H → va_D A [(h0, .inr (1, [.ref h0_least, .int a0])), (h0_least, .inl (k_t_least, 10007, .inl y6))] → va_S A s.heap H locs → lv_has ls 3 [(2, .int y5), (0, .ref h0), (1, .int a0)] → W p l e (headSpec wsX1_lay rmX1_lay).room s m (([.ref h0, .int a0] : List Value).toArray) below meth c H locs 0 0 (MQ below (va_Qv (fun (u : Int32 × (Nat → Int32)) => u = rr) (fun (u : Int32 × (Nat → Int32)) t => match u with | (u0, u1) => va_P (dC, dI) vwCl [(h0, .inr (1, [.ref h0_least, .int u0])), (h0_least, .inl (k_t_least, 10007, .inl u1))] t.heap ∧ va_K (dC, dI) vwCl [(k_t_least, .int)] t ∧ va_D (A) [(h0, .inr (1, [.ref h0_least, .int u0])), (h0_least, .inl (k_t_least, 10007, .inl u1))]) (A)) (([.ref h0, .int a0] : List Value).toArray) s 0 0 A) (F0 m 40 ls [])) → ∀ (H : Heap) (locs : List Loc) (ls : Array Slot), va_P (dC, dI) vwCl [(h0, .inr (1, [.ref h0_least, .int a0])), (h0_least, .inl (k_t_least, 10007, .inl x4))] H → va_D A [(h0, .inr (1, [.ref h0_least, .int a0])), (h0_least, .inl (k_t_least, 10007, .inl x4))] → va_S A s.heap H locs → lv_has ls 3 [(2, .int x3), (0, .ref h0), (1, .int a0)] → W p l e (headSpec wsX1_lay rmX1_lay).room s m (([.ref h0, .int a0] : List Value).toArray) below meth c H locs 0 0 (MQ below (va_Qv (fun (u : Int32 × (Nat → Int32)) => u = rr) (fun (u : Int32 × (Nat → Int32)) t => match u with | (u0, u1) => va_P (dC, dI) vwCl [(h0, .inr (1, [.ref h0_least, .int u0])), (h0_least, .inl (k_t_least, 10007, .inl u1))] t.heap ∧ va_K (dC, dI) vwCl [(k_t_least, .int)] t ∧ va_D (A) [(h0, .inr (1, [.ref h0_least, .int u0])), (h0_least, .inl (k_t_least, 10007, .inl u1))]) (A)) (([.ref h0, .int a0] : List Value).toArray) s 0 0 A) (F0 m 22 ls []) := by
        intro n
        induction n with
        | zero => intro x3 x4 o h; exact absurd h (mi_run_0 _ _ _)
        | succ n ih =>
          intro x3 x4 o h hkE H locs ls hP hD hS hl
          obtain ⟨w, h, hA, hB⟩ := mi_run_s h
          dsimp only [mX1_lay_b22] at h
          refine lv_iload_n hx hb dX1_lay_22 rfl (lv_at hl 0 rfl) ?_
          refine lv_iload_n hx hb dX1_lay_23 rfl (lv_at hl 2 rfl) ?_
          refine lv_icmp_ge (tgt := 40) hx hb dX1_lay_24 (by decide) (fun c7 => ?_) (fun c7 => ?_)
          · replace h := (if_pos c7).symm.trans h
            exact hkE _ _ (hB _ (Option.some.inj h).symm) _ _ ls hP hD hS (lv_sub hl [0, 1, 2] rfl)
          · replace h := (if_neg c7).symm.trans h
            refine lv_aload_n hx hb dX1_lay_27 rfl (lv_at hl 1 rfl) ?_
            refine va_get (D := (dC, dI)) (ci := 1) (v := .ref h0_least) (C := RX1) (T := TX1) (N := 2) hx hb hts (by decide +kernel) hown hK hP 0 rfl rfl 0 (by decide) (hts (.fieldLink RX1 9 "PointRings$Roots" "least" "[I") (by decide +kernel)) (fun _ h9 => h9) rfl dX1_lay_28 ?_
            refine lv_iload_n hx hb dX1_lay_31 rfl (lv_at hl 0 rfl) ?_
            refine lv_iconst (v := (-1)) hx hb dX1_lay_32 (by decide) ?_
            have hi8 : ¬ (x3 < 0 ∨ 10007 ≤ x3.toNatClampNeg) := fun hz => absurd ((if_pos hz).symm.trans h) (fun hh => nomatch hh)
            replace h := (if_neg hi8).symm.trans h
            refine va_iast hx hb hK hP hD hS 1 0 rfl rfl hi8 dX1_lay_33 (fun H locs hP hD hS => ?_)
            have hP : va_P (dC, dI) vwCl [(h0, .inr (1, [.ref h0_least, .int a0])), (h0_least, .inl (k_t_least, 10007, .inl (upd x4 x3.toNatClampNeg (-1))))] H := hP
            have hD : va_D A [(h0, .inr (1, [.ref h0_least, .int a0])), (h0_least, .inl (k_t_least, 10007, .inl (upd x4 x3.toNatClampNeg (-1))))] := hD
            obtain ⟨f9, ef9⟩ : ∃ z : Nat → Int32, z = upd x4 x3.toNatClampNeg (-1) := ⟨_, rfl⟩
            rw [← ef9] at hP hD
            replace h := mi_use ef9 h
            obtain ⟨v10, ev10⟩ : ∃ z : Int32, z = x3 + 1 := ⟨_, rfl⟩
            refine lv_iinc (v := v10) (lv' := [(2, .int v10), (0, .ref h0), (1, .int a0)]) hx hb dX1_lay_34 hl (k := 0) rfl (by rw [ev10]; rfl) (by decide) rfl (fun ls hl => ?_)
            replace h := mi_use ev10 h
            refine lv_goto (tgt := 22) hx hb dX1_lay_37 (by decide) ?_
            exact ih _ _ _ (hA _ (Option.some.inj h).symm) hkE _ _ ls hP hD hS (lv_sub hl [0, 1, 2] rfl)
      obtain ⟨o11, ho11, h⟩ := Option.bind_eq_some_iff.mp h
      refine L22 N _ _ o11 ho11 ?_ _ _ ls hP hD hS (lv_sub hl [0, 1, 2] rfl)
      intro y5 y6 eo H locs ls hP hD hS hl
      subst eo
      try dsimp only at h
      refine lv_iload_n hx hb dX1_lay_40 rfl (lv_at hl 2 rfl) ?_
      refine lv_iconst (v := 2) hx hb dX1_lay_41 (by decide) ?_
      refine lv_idiv hx hb dX1_lay_42 (by decide) ?_
      refine lv_topi (fun v12 ev12 => ?_)
      replace h := mi_use ev12 h
      refine lv_istore_n (lv' := [(2, .int v12), (0, .ref h0), (1, .int a0)]) hx hb dX1_lay_43 rfl hl (by decide) rfl (fun ls hl => ?_)
      have L44 : ∀ (n : Nat) (x13 : Int32) (x14 : Nat → Int32) (o : Int32 × (Nat → Int32)), mi_run (mX1_lay_b44 N a0) n (x13, x14) = some o → (∀ (y15 : Int32) (y16 : Nat → Int32), o = (y15, y16) → ∀ (H : Heap) (locs : List Loc) (ls : Array Slot), va_P (dC, dI) vwCl [(h0, .inr (1, [.ref h0_least, .int a0])), (h0_least, .inl (k_t_least, 10007, .inl y16))] H → va_D A [(h0, .inr (1, [.ref h0_least, .int a0])), (h0_least, .inl (k_t_least, 10007, .inl y16))] → va_S A s.heap H locs → lv_has ls 3 [(2, .int y15), (0, .ref h0), (1, .int a0)] → W p l e (headSpec wsX1_lay rmX1_lay).room s m (([.ref h0, .int a0] : List Value).toArray) below meth c H locs 0 0 (MQ below (va_Qv (fun (u : Int32 × (Nat → Int32)) => u = rr) (fun (u : Int32 × (Nat → Int32)) t => match u with | (u0, u1) => va_P (dC, dI) vwCl [(h0, .inr (1, [.ref h0_least, .int u0])), (h0_least, .inl (k_t_least, 10007, .inl u1))] t.heap ∧ va_K (dC, dI) vwCl [(k_t_least, .int)] t ∧ va_D (A) [(h0, .inr (1, [.ref h0_least, .int u0])), (h0_least, .inl (k_t_least, 10007, .inl u1))]) (A)) (([.ref h0, .int a0] : List Value).toArray) s 0 0 A) (F0 m 65 ls [])) → ∀ (H : Heap) (locs : List Loc) (ls : Array Slot), va_P (dC, dI) vwCl [(h0, .inr (1, [.ref h0_least, .int a0])), (h0_least, .inl (k_t_least, 10007, .inl x14))] H → va_D A [(h0, .inr (1, [.ref h0_least, .int a0])), (h0_least, .inl (k_t_least, 10007, .inl x14))] → va_S A s.heap H locs → lv_has ls 3 [(2, .int x13), (0, .ref h0), (1, .int a0)] → W p l e (headSpec wsX1_lay rmX1_lay).room s m (([.ref h0, .int a0] : List Value).toArray) below meth c H locs 0 0 (MQ below (va_Qv (fun (u : Int32 × (Nat → Int32)) => u = rr) (fun (u : Int32 × (Nat → Int32)) t => match u with | (u0, u1) => va_P (dC, dI) vwCl [(h0, .inr (1, [.ref h0_least, .int u0])), (h0_least, .inl (k_t_least, 10007, .inl u1))] t.heap ∧ va_K (dC, dI) vwCl [(k_t_least, .int)] t ∧ va_D (A) [(h0, .inr (1, [.ref h0_least, .int u0])), (h0_least, .inl (k_t_least, 10007, .inl u1))]) (A)) (([.ref h0, .int a0] : List Value).toArray) s 0 0 A) (F0 m 44 ls []) := by
        intro n
        induction n with
        | zero => intro x13 x14 o h; exact absurd h (mi_run_0 _ _ _)
        | succ n ih =>
          intro x13 x14 o h hkE H locs ls hP hD hS hl
          obtain ⟨w, h, hA, hB⟩ := mi_run_s h
          dsimp only [mX1_lay_b44] at h
          refine lv_iload_n hx hb dX1_lay_44 rfl (lv_at hl 0 rfl) ?_
          refine lv_if_lt (tgt := 65) hx hb dX1_lay_45 (by decide) (fun c17 => ?_) (fun c17 => ?_)
          · replace h := (if_pos c17).symm.trans h
            exact hkE _ _ (hB _ (Option.some.inj h).symm) _ _ ls hP hD hS (lv_sub hl [0, 1, 2] rfl)
          · replace h := (if_neg c17).symm.trans h
            refine lv_aload_n hx hb dX1_lay_48 rfl (lv_at hl 1 rfl) ?_
            refine va_get (D := (dC, dI)) (ci := 1) (v := .ref h0_least) (C := RX1) (T := TX1) (N := 2) hx hb hts (by decide +kernel) hown hK hP 0 rfl rfl 0 (by decide) (hts (.fieldLink RX1 9 "PointRings$Roots" "least" "[I") (by decide +kernel)) (fun _ h9 => h9) rfl dX1_lay_49 ?_
            refine lv_iload_n hx hb dX1_lay_52 rfl (lv_at hl 0 rfl) ?_
            refine lv_iload_n hx hb dX1_lay_53 rfl (lv_at hl 0 rfl) ?_
            refine lv_imul hx hb dX1_lay_54 ?_
            refine lv_iload_n hx hb dX1_lay_55 rfl (lv_at hl 2 rfl) ?_
            have hn18 : ¬ a0 = 0 := fun hz => absurd ((if_pos hz).symm.trans h) (fun hh => nomatch hh)
            replace h := (if_neg hn18).symm.trans h
            refine lv_irem hx hb dX1_lay_56 hn18 ?_
            refine lv_topi (fun v19 ev19 => ?_)
            replace h := mi_use ev19 h
            refine lv_iload_n hx hb dX1_lay_57 rfl (lv_at hl 0 rfl) ?_
            have hi20 : ¬ (v19 < 0 ∨ 10007 ≤ v19.toNatClampNeg) := fun hz => absurd ((if_pos hz).symm.trans h) (fun hh => nomatch hh)
            replace h := (if_neg hi20).symm.trans h
            refine va_iast hx hb hK hP hD hS 1 0 rfl rfl hi20 dX1_lay_58 (fun H locs hP hD hS => ?_)
            have hP : va_P (dC, dI) vwCl [(h0, .inr (1, [.ref h0_least, .int a0])), (h0_least, .inl (k_t_least, 10007, .inl (upd x14 v19.toNatClampNeg x13)))] H := hP
            have hD : va_D A [(h0, .inr (1, [.ref h0_least, .int a0])), (h0_least, .inl (k_t_least, 10007, .inl (upd x14 v19.toNatClampNeg x13)))] := hD
            obtain ⟨f21, ef21⟩ : ∃ z : Nat → Int32, z = upd x14 v19.toNatClampNeg x13 := ⟨_, rfl⟩
            rw [← ef21] at hP hD
            replace h := mi_use ef21 h
            obtain ⟨v22, ev22⟩ : ∃ z : Int32, z = x13 + (-1) := ⟨_, rfl⟩
            refine lv_iinc (v := v22) (lv' := [(2, .int v22), (0, .ref h0), (1, .int a0)]) hx hb dX1_lay_59 hl (k := 0) rfl (by rw [ev22]; rfl) (by decide) rfl (fun ls hl => ?_)
            replace h := mi_use ev22 h
            refine lv_goto (tgt := 44) hx hb dX1_lay_62 (by decide) ?_
            exact ih _ _ _ (hA _ (Option.some.inj h).symm) hkE _ _ ls hP hD hS (lv_sub hl [0, 1, 2] rfl)
      obtain ⟨o23, ho23, h⟩ := Option.bind_eq_some_iff.mp h
      refine L44 N _ _ o23 ho23 ?_ _ _ ls hP hD hS (lv_sub hl [0, 1, 2] rfl)
      intro y15 y16 eo H locs ls hP hD hS hl
      subst eo
      try dsimp only at h
      have hv : (a0, y16) = rr := Option.some.inj h
      have hP9 := hP.sub (ws' := [(h0, .inr (1, [.ref h0_least, .int a0])), (h0_least, .inl (k_t_least, 10007, .inl y16))]) [0, 1] rfl
      have hD9 := hD.sub (ws' := [(h0, .inr (1, [.ref h0_least, .int a0])), (h0_least, .inl (k_t_least, 10007, .inl y16))]) [0, 1] (by decide) rfl
      have hK9 := hK.sub (tys' := [(k_t_least, .int)]) [0] rfl
      exact W.vret hx hb hr (fun t ht hW => ⟨⟨(a0, y16), rfl, hv, by rw [ht]; exact hP9, va_K.moved hW.alike hK9, hD9⟩, hS.F ht⟩) hS.2.2 dX1_lay_65
    · replace h := (if_neg c2).symm.trans h
      have hv : (t_prime, t_least) = rr := Option.some.inj h
      have hP9 := hP.sub (ws' := [(h0, .inr (1, [.ref h0_least, .int t_prime])), (h0_least, .inl (k_t_least, 10007, .inl t_least))]) [0, 1] rfl
      have hD9 := hD.sub (ws' := [(h0, .inr (1, [.ref h0_least, .int t_prime])), (h0_least, .inl (k_t_least, 10007, .inl t_least))]) [0, 1] (by decide) rfl
      have hK9 := hK.sub (tys' := [(k_t_least, .int)]) [0] rfl
      exact W.vret hx hb hr (fun t ht hW => ⟨⟨(t_prime, t_least), rfl, hv, by rw [ht]; exact hP9, va_K.moved hW.alike hK9, hD9⟩, hS.F ht⟩) hS.2.2 dX1_lay_14
