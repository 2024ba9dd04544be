def mX1_leastRoot (N : Nat) (t_prime : Int32) (t_least : Nat → Int32) (a0 : Int32) (a1 : Int32) : Option (Int32 × Int32 × (Nat → Int32)) := if a1 = t_prime then if a0 < 0 then some ((-1), t_prime, t_least) else if t_prime ≤ a0 then some ((-1), t_prime, t_least) else if a0 < 0 ∨ 10007 ≤ a0.toNatClampNeg then none else mi_let (t_least a0.toNatClampNeg) (fun v5 => some (v5, t_prime, t_least)) else (mX1_lay N t_prime t_least a1).bind (fun r6 => match r6 with | (u7, f8) => if a0 < 0 then some ((-1), u7, f8) else if u7 ≤ a0 then some ((-1), u7, f8) else if a0 < 0 ∨ 10007 ≤ a0.toNatClampNeg then none else mi_let (f8 a0.toNatClampNeg) (fun v12 => some (v12, u7, f8)))
abbrev rmX1_leastRoot : Room := { frames := 1, cells := 0, slots := 0, locals := 22 }
set_option maxHeartbeats 4000000 in
set_option maxRecDepth 100000 in
theorem ctX1_leastRoot (l : Launch) (N : Nat) (dC : Nat → ClassId) (dI : Nat → Nat → Nat) (sz : Nat) (h0 : Nat) (h0_least : Nat) (k_t_least : ClassId) (t_prime : Int32) (t_least : Nat → Int32) (a0 : Int32) (a1 : Int32) (rr : Int32 × Int32 × (Nat → Int32)) (h : mX1_leastRoot N t_prime t_least a0 a1 = some rr) : Met l yX1_leastRoot wsX1_leastRoot rmX1_leastRoot (va_Pc [.ref h0, .int a0, .int a1] (fun U => U.heap.size = sz ∧ va_P (dC, dI) vwCl [(h0, .inr (1, [.ref h0_least, .int t_prime])), (h0_least, .inl (k_t_least, 10007, .inl t_least))] U.heap ∧ va_K (dC, dI) vwCl [(k_t_least, .int)] U ∧ nw_all U ∧ va_D (fun _ => True) [(h0, .inr (1, [.ref h0_least, .int t_prime])), (h0_least, .inl (k_t_least, 10007, .inl t_least))])) (va_Qi (fun (r : Int32) (u : Int32 × (Nat → Int32)) => (r, u) = rr) (fun (u : Int32 × (Nat → Int32)) t => match u with | (u0, u1) => va_P (dC, dI) vwCl [(h0, .inr (1, [.ref h0_least, .int u0])), (h0_least, .inl (k_t_least, 10007, .inl u1))] t.heap ∧ va_K (dC, dI) vwCl [(k_t_least, .int)] t ∧ va_D (va_A [(h0, .inr (1, [.ref h0_least, .int t_prime])), (h0_least, .inl (k_t_least, 10007, .inl t_least))] sz) [(h0, .inr (1, [.ref h0_least, .int u0])), (h0_least, .inl (k_t_least, 10007, .inl u1))]) (va_A [(h0, .inr (1, [.ref h0_least, .int t_prime])), (h0_least, .inl (k_t_least, 10007, .inl t_least))] sz)) 0 0 (va_A [(h0, .inr (1, [.ref h0_least, .int t_prime])), (h0_least, .inl (k_t_least, 10007, .inl t_least))] sz) := by
  refine Met.ofW (cc := cX1_leastRoot) (maxL := 3) (ret := (some .int)) (by decide) rfl ?_
  intro p e s m args below meth c s₁ B hml hv
  obtain ⟨rfl, hsz, hP, hK, hN, hD0⟩ := hv
  have hx := B.exec
  have hb := B.bytes
  have hr := B.returns
  have hts := atoms_spec (ws := wsX1_leastRoot) B.pre
  have hown : s.vm.findClass RX1 = some m.cls := findClass_of_methodNamed B.named
  have hlocks := B.notSynchronized
  subst hsz
  have hD := hD0.self (sz := s.heap.size)
  generalize hAe : va_A [(h0, .inr (1, [.ref h0_least, .int t_prime])), (h0_least, .inl (k_t_least, 10007, .inl t_least))] s.heap.size = A at hD ⊢
  have hA0 : ∀ q : Nat, s.heap.size ≤ q → A q := fun q h => by rw [← hAe]; exact Or.inr h
  have hS : va_S A s.heap s.heap [] := va_S.rf
  have hP : va_P (dC, dI) vwCl [(h0, .inr (1, [.ref h0_least, .int t_prime])), (h0_least, .inl (k_t_least, 10007, .inl t_least))] s.heap := hP
  have hl := lv_entry ([.ref h0, .int a0, .int a1]) (n := 3) (Nat.le_of_ble_eq_true rfl)
  rw [lg_entry_eq]
  generalize (lg_sl ([.ref h0, .int a0, .int a1]) ++ List.replicate (3 - (lg_sl ([.ref h0, .int a0, .int a1])).length) Slot.unset).toArray = ls at hl ⊢
  have hl : lv_has ls 3 [(0, .ref h0), (1, .int a0), (2, .int a1)] := hl
  dsimp only [mX1_leastRoot] at h
  refine lv_iload_n hx hb dX1_leastRoot_0 rfl (lv_at hl 2 rfl) ?_
  refine lv_aload_n hx hb dX1_leastRoot_1 rfl (lv_at hl 0 rfl) ?_
  refine va_get (D := (dC, dI)) (ci := 1) (v := .int t_prime) (C := RX1) (T := TX1) (N := 2) hx hb hts (by decide +kernel) hown hK hP 0 rfl rfl 1 (by decide) (hts (.fieldLink RX1 15 "PointRings$Roots" "prime" "I") (by decide +kernel)) (fun _ h9 => h9) rfl dX1_leastRoot_2 ?_
  refine lv_icmp_eq (tgt := 13) hx hb dX1_leastRoot_5 (by decide) (fun c1 => ?_) (fun c1 => ?_)
  · replace h := (if_pos c1).symm.trans h
    refine lv_iload_n hx hb dX1_leastRoot_13 rfl (lv_at hl 1 rfl) ?_
    refine lv_if_lt (tgt := 34) hx hb dX1_leastRoot_14 (by decide) (fun c2 => ?_) (fun c2 => ?_)
    · replace h := (if_pos c2).symm.trans h
      refine lv_iconst (v := (-1)) hx hb dX1_leastRoot_34 (by decide) ?_
      have hv : ((-1), t_prime, t_least) = rr := Option.some.inj h
      have hP9 := hP.sub (ws' := [(h0, .inr (1, [.ref h0_least, .int t_prime])), (h0_least, .inl (k_t_least, 10007, .inl t_least))]) [0, 1] rfl
      have hD9 := hD.sub (ws' := [(h0, .inr (1, [.ref h0_least, .int t_prime])), (h0_least, .inl (k_t_least, 10007, .inl t_least))]) [0, 1] (by decide) rfl
      have hK9 := hK.sub (tys' := [(k_t_least, .int)]) [0] rfl
      exact W.iret (v := (-1)) hx hb hr (fun t ht hW => ⟨⟨(-1), (t_prime, t_least), rfl, hv, by rw [ht]; exact hP9, va_K.moved hW.alike hK9, hD9⟩, hS.F ht⟩) hS.2.2 dX1_leastRoot_35
    · replace h := (if_neg c2).symm.trans h
      refine lv_iload_n hx hb dX1_leastRoot_17 rfl (lv_at hl 1 rfl) ?_
      refine lv_aload_n hx hb dX1_leastRoot_18 rfl (lv_at hl 0 rfl) ?_
      refine va_get (D := (dC, dI)) (ci := 1) (v := .int t_prime) (C := RX1) (T := TX1) (N := 2) hx hb hts (by decide +kernel) hown hK hP 0 rfl rfl 1 (by decide) (hts (.fieldLink RX1 15 "PointRings$Roots" "prime" "I") (by decide +kernel)) (fun _ h9 => h9) rfl dX1_leastRoot_19 ?_
      refine lv_icmp_ge (tgt := 34) hx hb dX1_leastRoot_22 (by decide) (fun c3 => ?_) (fun c3 => ?_)
      · replace h := (if_pos c3).symm.trans h
        refine lv_iconst (v := (-1)) hx hb dX1_leastRoot_34 (by decide) ?_
        have hv : ((-1), t_prime, t_least) = rr := Option.some.inj h
        have hP9 := hP.sub (ws' := [(h0, .inr (1, [.ref h0_least, .int t_prime])), (h0_least, .inl (k_t_least, 10007, .inl t_least))]) [0, 1] rfl
        have hD9 := hD.sub (ws' := [(h0, .inr (1, [.ref h0_least, .int t_prime])), (h0_least, .inl (k_t_least, 10007, .inl t_least))]) [0, 1] (by decide) rfl
        have hK9 := hK.sub (tys' := [(k_t_least, .int)]) [0] rfl
        exact W.iret (v := (-1)) hx hb hr (fun t ht hW => ⟨⟨(-1), (t_prime, t_least), rfl, hv, by rw [ht]; exact hP9, va_K.moved hW.alike hK9, hD9⟩, hS.F ht⟩) hS.2.2 dX1_leastRoot_35
      · replace h := (if_neg c3).symm.trans h
        refine lv_aload_n hx hb dX1_leastRoot_25 rfl (lv_at hl 0 rfl) ?_
        refine va_get (D := (dC, dI)) (ci := 1) (v := .ref h0_least) (C := RX1) (T := TX1) (N := 2) hx hb hts (by decide +kernel) hown hK hP 0 rfl rfl 0 (by decide) (hts (.fieldLink RX1 9 "PointRings$Roots" "least" "[I") (by decide +kernel)) (fun _ h9 => h9) rfl dX1_leastRoot_26 ?_
        refine lv_iload_n hx hb dX1_leastRoot_29 rfl (lv_at hl 1 rfl) ?_
        have hi4 : ¬ (a0 < 0 ∨ 10007 ≤ a0.toNatClampNeg) := fun hz => absurd ((if_pos hz).symm.trans h) (fun hh => nomatch hh)
        replace h := (if_neg hi4).symm.trans h
        refine va_iald hx hb hK hP 1 0 rfl rfl hi4 dX1_leastRoot_30 ?_
        refine lv_topi (fun v5 ev5 => ?_)
        replace h := mi_use ev5 h
        refine lv_goto (tgt := 35) hx hb dX1_leastRoot_31 (by decide) ?_
        have hv : (v5, t_prime, t_least) = rr := Option.some.inj h
        have hP9 := hP.sub (ws' := [(h0, .inr (1, [.ref h0_least, .int t_prime])), (h0_least, .inl (k_t_least, 10007, .inl t_least))]) [0, 1] rfl
        have hD9 := hD.sub (ws' := [(h0, .inr (1, [.ref h0_least, .int t_prime])), (h0_least, .inl (k_t_least, 10007, .inl t_least))]) [0, 1] (by decide) rfl
        have hK9 := hK.sub (tys' := [(k_t_least, .int)]) [0] rfl
        exact W.iret (v := v5) hx hb hr (fun t ht hW => ⟨⟨v5, (t_prime, t_least), rfl, hv, by rw [ht]; exact hP9, va_K.moved hW.alike hK9, hD9⟩, hS.F ht⟩) hS.2.2 dX1_leastRoot_35
  · replace h := (if_neg c1).symm.trans h
    refine lv_aload_n hx hb dX1_leastRoot_8 rfl (lv_at hl 0 rfl) ?_
    refine lv_iload_n hx hb dX1_leastRoot_9 rfl (lv_at hl 2 rfl) ?_
    obtain ⟨r6, hr6, h⟩ := Option.bind_eq_some_iff.mp h
    have hPc := hP.sub (ws' := [(h0, .inr (1, [.ref h0_least, .int t_prime])), (h0_least, .inl (k_t_least, 10007, .inl t_least))]) [0, 1] rfl
    have hDc := hD.sub (ws' := [(h0, .inr (1, [.ref h0_least, .int t_prime])), (h0_least, .inl (k_t_least, 10007, .inl t_least))]) [0, 1] (by decide) rfl
    have hKc := hK.sub (tys' := [(k_t_least, .int)]) [0] rfl
    have hFc := va_free (wc := [(h0, .inr (1, [.ref h0_least, .int t_prime])), (h0_least, .inl (k_t_least, 10007, .inl t_least))]) hD hS hA0 [0, 1] rfl
    refine va_callv (va_runV (As := [.int a1]) (rest := []) ⟨hx, hb, hml, hown, hts⟩ (ctX1_lay l N dC dI _ h0 h0_least k_t_least t_prime t_least a1 r6 hr6) (cwV 1 hts gX1_leastRoot_X1_lay rfl rfl rfl (by decide +kernel) ⟨Nat.le_of_ble_eq_true rfl, Nat.le_of_ble_eq_true rfl⟩) ⟨fun a U g mk q => by obtain ⟨q0, q1, qP, qK, qN, qD⟩ := q; exact ⟨q0, q1, qP, va_K.moved (u := U) (U := U.calling g mk a) (Vm.Alike.refl U.vm) qK, nw_same (u := U) (U := U.calling g mk a) rfl qN, qD⟩, va_recv hKc hPc (ci := 1) (q0 := 0) rfl rfl, fun U hU hW => ⟨rfl, by rw [hU], by rw [hU]; exact hPc, va_K.moved hW.alike hKc, nw_warm hW hN, hDc.weaken (fun _ _ _ _ => trivial)⟩⟩ rfl rfl hl.1 rfl (lv_room (Nat.le_of_ble_eq_true rfl)) dX1_leastRoot_10 ⟨Nat.le_of_ble_eq_true rfl, Nat.le_of_ble_eq_true rfl⟩) hS (fun q _ h => hFc q h) hFc (fun u t H1 locs ht hvm hw hB1 hz1 hk1 hS => ?_)
    obtain ⟨u7, f8⟩ := u
    obtain ⟨hP1, hK1, hD1⟩ := hB1
    rw [ht] at hP1
    have hK1 := va_K.moved hvm.symm hK1
    subst hw
    try dsimp only at h
    obtain ⟨hP, hD⟩ := va_join (wr := []) (w1 := [(h0, .inr (1, [.ref h0_least, .int u7])), (h0_least, .inl (k_t_least, 10007, .inl f8))]) hP hD [0, 1] [] rfl rfl (by decide) (by decide) hk1 hFc hP1 hD1
    generalize H1 = H at hP hS ⊢
    have hP := hP.sub (ws' := [(h0, .inr (1, [.ref h0_least, .int u7])), (h0_least, .inl (k_t_least, 10007, .inl f8))]) [0, 1] rfl
    have hD := hD.sub (ws' := [(h0, .inr (1, [.ref h0_least, .int u7])), (h0_least, .inl (k_t_least, 10007, .inl f8))]) [0, 1] (by decide) rfl
    refine lv_iload_n hx hb dX1_leastRoot_13 rfl (lv_at hl 1 rfl) ?_
    refine lv_if_lt (tgt := 34) hx hb dX1_leastRoot_14 (by decide) (fun c9 => ?_) (fun c9 => ?_)
    · replace h := (if_pos c9).symm.trans h
      refine lv_iconst (v := (-1)) hx hb dX1_leastRoot_34 (by decide) ?_
      have hv : ((-1), u7, f8) = rr := Option.some.inj h
      have hP9 := hP.sub (ws' := [(h0, .inr (1, [.ref h0_least, .int u7])), (h0_least, .inl (k_t_least, 10007, .inl f8))]) [0, 1] rfl
      have hD9 := hD.sub (ws' := [(h0, .inr (1, [.ref h0_least, .int u7])), (h0_least, .inl (k_t_least, 10007, .inl f8))]) [0, 1] (by decide) rfl
      have hK9 := hK.sub (tys' := [(k_t_least, .int)]) [0] rfl
      exact W.iret (v := (-1)) hx hb hr (fun t ht hW => ⟨⟨(-1), (u7, f8), rfl, hv, by rw [ht]; exact hP9, va_K.moved hW.alike hK9, hD9⟩, hS.F ht⟩) hS.2.2 dX1_leastRoot_35
    · replace h := (if_neg c9).symm.trans h
      refine lv_iload_n hx hb dX1_leastRoot_17 rfl (lv_at hl 1 rfl) ?_
      refine lv_aload_n hx hb dX1_leastRoot_18 rfl (lv_at hl 0 rfl) ?_
      refine va_get (D := (dC, dI)) (ci := 1) (v := .int u7) (C := RX1) (T := TX1) (N := 2) hx hb hts (by decide +kernel) hown hK hP 0 rfl rfl 1 (by decide) (hts (.fieldLink RX1 15 "PointRings$Roots" "prime" "I") (by decide +kernel)) (fun _ h9 => h9) rfl dX1_leastRoot_19 ?_
      refine lv_icmp_ge (tgt := 34) hx hb dX1_leastRoot_22 (by decide) (fun c10 => ?_) (fun c10 => ?_)
      · replace h := (if_pos c10).symm.trans h
        refine lv_iconst (v := (-1)) hx hb dX1_leastRoot_34 (by decide) ?_
        have hv : ((-1), u7, f8) = rr := Option.some.inj h
        have hP9 := hP.sub (ws' := [(h0, .inr (1, [.ref h0_least, .int u7])), (h0_least, .inl (k_t_least, 10007, .inl f8))]) [0, 1] rfl
        have hD9 := hD.sub (ws' := [(h0, .inr (1, [.ref h0_least, .int u7])), (h0_least, .inl (k_t_least, 10007, .inl f8))]) [0, 1] (by decide) rfl
        have hK9 := hK.sub (tys' := [(k_t_least, .int)]) [0] rfl
        exact W.iret (v := (-1)) hx hb hr (fun t ht hW => ⟨⟨(-1), (u7, f8), rfl, hv, by rw [ht]; exact hP9, va_K.moved hW.alike hK9, hD9⟩, hS.F ht⟩) hS.2.2 dX1_leastRoot_35
      · replace h := (if_neg c10).symm.trans h
        refine lv_aload_n hx hb dX1_leastRoot_25 rfl (lv_at hl 0 rfl) ?_
        refine va_get (D := (dC, dI)) (ci := 1) (v := .ref h0_least) (C := RX1) (T := TX1) (N := 2) hx hb hts (by decide +kernel) hown hK hP 0 rfl rfl 0 (by decide) (hts (.fieldLink RX1 9 "PointRings$Roots" "least" "[I") (by decide +kernel)) (fun _ h9 => h9) rfl dX1_leastRoot_26 ?_
        refine lv_iload_n hx hb dX1_leastRoot_29 rfl (lv_at hl 1 rfl) ?_
        have hi11 : ¬ (a0 < 0 ∨ 10007 ≤ a0.toNatClampNeg) := fun hz => absurd ((if_pos hz).symm.trans h) (fun hh => nomatch hh)
        replace h := (if_neg hi11).symm.trans h
        refine va_iald hx hb hK hP 1 0 rfl rfl hi11 dX1_leastRoot_30 ?_
        refine lv_topi (fun v12 ev12 => ?_)
        replace h := mi_use ev12 h
        refine lv_goto (tgt := 35) hx hb dX1_leastRoot_31 (by decide) ?_
        have hv : (v12, u7, f8) = rr := Option.some.inj h
        have hP9 := hP.sub (ws' := [(h0, .inr (1, [.ref h0_least, .int u7])), (h0_least, .inl (k_t_least, 10007, .inl f8))]) [0, 1] rfl
        have hD9 := hD.sub (ws' := [(h0, .inr (1, [.ref h0_least, .int u7])), (h0_least, .inl (k_t_least, 10007, .inl f8))]) [0, 1] (by decide) rfl
        have hK9 := hK.sub (tys' := [(k_t_least, .int)]) [0] rfl
        exact W.iret (v := v12) hx hb hr (fun t ht hW => ⟨⟨v12, (u7, f8), rfl, hv, by rw [ht]; exact hP9, va_K.moved hW.alike hK9, hD9⟩, hS.F ht⟩) hS.2.2 dX1_leastRoot_35
