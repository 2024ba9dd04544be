def mX5_census (N : Nat) (t_survey_roots_prime : Int32) (t_survey_roots_least : Nat → Int32) (a0 : Int32) (a1 : Int32) : Option (Int32 × Int32 × (Nat → Int32)) := if 61 < a0 then some ((-2), t_survey_roots_prime, t_survey_roots_least) else (mX4_isFieldPrime N a0).bind (fun r2 => if r2 = 0 then some ((-2), t_survey_roots_prime, t_survey_roots_least) else (mX3_pairsWith N t_survey_roots_prime t_survey_roots_least a0 a1).bind (fun r4 => match r4 with | (r7, u5, f6) => some (r7, u5, f6)))
abbrev rmX5_census : Room := { frames := 6, cells := 0, slots := 0, locals := 140 }
set_option maxHeartbeats 4000000 in
set_option maxRecDepth 100000 in
theorem ctX5_census (l : Launch) (N : Nat) (dC : Nat → ClassId) (dI : Nat → Nat → Nat) (sz : Nat) (h0 : Nat) (h0_survey : Nat) (h0_survey_roots : Nat) (h0_survey_roots_least : Nat) (h0_held : Nat) (h0_survey_strides : Nat) (h0_survey_halvesFound : Nat) (k_t_survey_roots_least : ClassId) (t_size : Int32) (t_survey_roots_prime : Int32) (t_survey_roots_least : Nat → Int32) (a0 : Int32) (a1 : Int32) (rr : Int32 × Int32 × (Nat → Int32)) (h : mX5_census N t_survey_roots_prime t_survey_roots_least a0 a1 = some rr) : Met l yX5_census wsX5_census rmX5_census (va_Pc [.ref h0, .int a0, .int a1] (fun U => U.heap.size = sz ∧ va_P (dC, dI) vwCl [(h0, .inr (4, [.ref h0_held, .int t_size, .ref h0_survey])), (h0_survey, .inr (3, [.ref h0_survey_roots, .ref h0_survey_strides, .ref h0_survey_halvesFound])), (h0_survey_roots, .inr (1, [.ref h0_survey_roots_least, .int t_survey_roots_prime])), (h0_survey_roots_least, .inl (k_t_survey_roots_least, 10007, .inl t_survey_roots_least))] U.heap ∧ va_K (dC, dI) vwCl [(k_t_survey_roots_least, .int)] U ∧ nw_all U ∧ va_D (fun _ => True) [(h0, .inr (4, [.ref h0_held, .int t_size, .ref h0_survey])), (h0_survey, .inr (3, [.ref h0_survey_roots, .ref h0_survey_strides, .ref h0_survey_halvesFound])), (h0_survey_roots, .inr (1, [.ref h0_survey_roots_least, .int t_survey_roots_prime])), (h0_survey_roots_least, .inl (k_t_survey_roots_least, 10007, .inl t_survey_roots_least))])) (va_Qi (fun (r : Int32) (u : Int32 × (Nat → Int32)) => (r, u) = rr) (fun (u : Int32 × (Nat → Int32)) t => match u with | (u0, u1) => va_P (dC, dI) vwCl [(h0, .inr (4, [.ref h0_held, .int t_size, .ref h0_survey])), (h0_survey, .inr (3, [.ref h0_survey_roots, .ref h0_survey_strides, .ref h0_survey_halvesFound])), (h0_survey_roots, .inr (1, [.ref h0_survey_roots_least, .int u0])), (h0_survey_roots_least, .inl (k_t_survey_roots_least, 10007, .inl u1))] t.heap ∧ va_K (dC, dI) vwCl [(k_t_survey_roots_least, .int)] t ∧ va_D (va_A [(h0, .inr (4, [.ref h0_held, .int t_size, .ref h0_survey])), (h0_survey, .inr (3, [.ref h0_survey_roots, .ref h0_survey_strides, .ref h0_survey_halvesFound])), (h0_survey_roots, .inr (1, [.ref h0_survey_roots_least, .int t_survey_roots_prime])), (h0_survey_roots_least, .inl (k_t_survey_roots_least, 10007, .inl t_survey_roots_least))] sz) [(h0, .inr (4, [.ref h0_held, .int t_size, .ref h0_survey])), (h0_survey, .inr (3, [.ref h0_survey_roots, .ref h0_survey_strides, .ref h0_survey_halvesFound])), (h0_survey_roots, .inr (1, [.ref h0_survey_roots_least, .int u0])), (h0_survey_roots_least, .inl (k_t_survey_roots_least, 10007, .inl u1))]) (va_A [(h0, .inr (4, [.ref h0_held, .int t_size, .ref h0_survey])), (h0_survey, .inr (3, [.ref h0_survey_roots, .ref h0_survey_strides, .ref h0_survey_halvesFound])), (h0_survey_roots, .inr (1, [.ref h0_survey_roots_least, .int t_survey_roots_prime])), (h0_survey_roots_least, .inl (k_t_survey_roots_least, 10007, .inl t_survey_roots_least))] sz)) 0 0 (va_A [(h0, .inr (4, [.ref h0_held, .int t_size, .ref h0_survey])), (h0_survey, .inr (3, [.ref h0_survey_roots, .ref h0_survey_strides, .ref h0_survey_halvesFound])), (h0_survey_roots, .inr (1, [.ref h0_survey_roots_least, .int t_survey_roots_prime])), (h0_survey_roots_least, .inl (k_t_survey_roots_least, 10007, .inl t_survey_roots_least))] sz) := by
  refine Met.ofW (cc := cX5_census) (maxL := 3) (ret := (some .int)) (by decide) rfl ?_
  intro p e s m args below meth c s₁ B hml hv
  obtain ⟨rfl, hsz, hP, hK, hN, hD0⟩ := hv
  have hx := B.exec
  have hb := B.bytes
  have hr := B.returns
  have hts := atoms_spec (ws := wsX5_census) B.pre
  have hown : s.vm.findClass RX5 = some m.cls := findClass_of_methodNamed B.named
  have hlocks := B.notSynchronized
  subst hsz
  have hD := hD0.self (sz := s.heap.size)
  generalize hAe : va_A [(h0, .inr (4, [.ref h0_held, .int t_size, .ref h0_survey])), (h0_survey, .inr (3, [.ref h0_survey_roots, .ref h0_survey_strides, .ref h0_survey_halvesFound])), (h0_survey_roots, .inr (1, [.ref h0_survey_roots_least, .int t_survey_roots_prime])), (h0_survey_roots_least, .inl (k_t_survey_roots_least, 10007, .inl t_survey_roots_least))] s.heap.size = A at hD ⊢
  have hA0 : ∀ q : Nat, s.heap.size ≤ q → A q := fun q h => by rw [← hAe]; exact Or.inr h
  have hS : va_S A s.heap s.heap [] := va_S.rf
  have hP : va_P (dC, dI) vwCl [(h0, .inr (4, [.ref h0_held, .int t_size, .ref h0_survey])), (h0_survey, .inr (3, [.ref h0_survey_roots, .ref h0_survey_strides, .ref h0_survey_halvesFound])), (h0_survey_roots, .inr (1, [.ref h0_survey_roots_least, .int t_survey_roots_prime])), (h0_survey_roots_least, .inl (k_t_survey_roots_least, 10007, .inl t_survey_roots_least))] s.heap := hP
  have hl := lv_entry ([.ref h0, .int a0, .int a1]) (n := 3) (Nat.le_of_ble_eq_true rfl)
  rw [lg_entry_eq]
  generalize (lg_sl ([.ref h0, .int a0, .int a1]) ++ List.replicate (3 - (lg_sl ([.ref h0, .int a0, .int a1])).length) Slot.unset).toArray = ls at hl ⊢
  have hl : lv_has ls 3 [(0, .ref h0), (1, .int a0), (2, .int a1)] := hl
  dsimp only [mX5_census] at h
  refine lv_iload_n hx hb dX5_census_0 rfl (lv_at hl 1 rfl) ?_
  refine lv_bipush (v := 61) hx hb dX5_census_1 (by decide) ?_
  refine lv_icmp_gt (tgt := 13) hx hb dX5_census_3 (by decide) (fun c1 => ?_) (fun c1 => ?_)
  · replace h := (if_pos c1).symm.trans h
    refine lv_bipush (v := (-2)) hx hb dX5_census_13 (by decide) ?_
    refine lv_goto (tgt := 27) hx hb dX5_census_15 (by decide) ?_
    have hv : ((-2), t_survey_roots_prime, t_survey_roots_least) = rr := Option.some.inj h
    have hP9 := hP.sub (ws' := [(h0, .inr (4, [.ref h0_held, .int t_size, .ref h0_survey])), (h0_survey, .inr (3, [.ref h0_survey_roots, .ref h0_survey_strides, .ref h0_survey_halvesFound])), (h0_survey_roots, .inr (1, [.ref h0_survey_roots_least, .int t_survey_roots_prime])), (h0_survey_roots_least, .inl (k_t_survey_roots_least, 10007, .inl t_survey_roots_least))]) [0, 1, 2, 3] rfl
    have hD9 := hD.sub (ws' := [(h0, .inr (4, [.ref h0_held, .int t_size, .ref h0_survey])), (h0_survey, .inr (3, [.ref h0_survey_roots, .ref h0_survey_strides, .ref h0_survey_halvesFound])), (h0_survey_roots, .inr (1, [.ref h0_survey_roots_least, .int t_survey_roots_prime])), (h0_survey_roots_least, .inl (k_t_survey_roots_least, 10007, .inl t_survey_roots_least))]) [0, 1, 2, 3] (by decide) rfl
    have hK9 := hK.sub (tys' := [(k_t_survey_roots_least, .int)]) [0] rfl
    exact W.iret (v := (-2)) hx hb hr (fun t ht hW => ⟨⟨(-2), (t_survey_roots_prime, t_survey_roots_least), rfl, hv, by rw [ht]; exact hP9, va_K.moved hW.alike hK9, hD9⟩, hS.F ht⟩) hS.2.2 dX5_census_27
  · replace h := (if_neg c1).symm.trans h
    refine lv_iload_n hx hb dX5_census_6 rfl (lv_at hl 1 rfl) ?_
    obtain ⟨r2, hr2, h⟩ := Option.bind_eq_some_iff.mp h
    refine vp_callSi (W.runS (As := [.int a0]) (rest := []) ⟨hx, hb, hml, hown, hts⟩ (ctX4_isFieldPrime l N  a0 r2 hr2) (va_cwS 1 hts gX5_census_X4_isFieldPrime rfl rfl rfl (by decide +kernel) ⟨Nat.le_of_ble_eq_true rfl, Nat.le_of_ble_eq_true rfl⟩) preEq rfl rfl hl.1 rfl (lv_room (Nat.le_of_ble_eq_true rfl)) dX5_census_7 ⟨Nat.le_of_ble_eq_true rfl, Nat.le_of_ble_eq_true rfl⟩) (fun q9 eq9 => ?_)
    subst q9
    refine lv_if_ne (tgt := 18) hx hb dX5_census_10 (by decide) (fun c3 => ?_) (fun c3 => ?_)
    · replace h := (if_neg c3).symm.trans h
      refine lv_aload_n hx hb dX5_census_18 rfl (lv_at hl 0 rfl) ?_
      refine va_get (D := (dC, dI)) (ci := 4) (v := .ref h0_survey) (C := RX5) (T := TX5) (N := 3) hx hb hts (by decide +kernel) hown hK hP 0 rfl rfl 2 (by decide) (hts (.fieldLink RX5 22 "PointRings" "survey" "LPointRings$Survey;") (by decide +kernel)) (fun _ h9 => h9) rfl dX5_census_19 ?_
      refine lv_iload_n hx hb dX5_census_22 rfl (lv_at hl 1 rfl) ?_
      refine lv_iload_n hx hb dX5_census_23 rfl (lv_at hl 2 rfl) ?_
      obtain ⟨r4, hr4, h⟩ := Option.bind_eq_some_iff.mp h
      have hPc := hP.sub (ws' := [(h0_survey, .inr (3, [.ref h0_survey_roots, .ref h0_survey_strides, .ref h0_survey_halvesFound])), (h0_survey_roots, .inr (1, [.ref h0_survey_roots_least, .int t_survey_roots_prime])), (h0_survey_roots_least, .inl (k_t_survey_roots_least, 10007, .inl t_survey_roots_least))]) [1, 2, 3] rfl
      have hDc := hD.sub (ws' := [(h0_survey, .inr (3, [.ref h0_survey_roots, .ref h0_survey_strides, .ref h0_survey_halvesFound])), (h0_survey_roots, .inr (1, [.ref h0_survey_roots_least, .int t_survey_roots_prime])), (h0_survey_roots_least, .inl (k_t_survey_roots_least, 10007, .inl t_survey_roots_least))]) [1, 2, 3] (by decide) rfl
      have hKc := hK.sub (tys' := [(k_t_survey_roots_least, .int)]) [0] rfl
      have hFc := va_free (wc := [(h0_survey, .inr (3, [.ref h0_survey_roots, .ref h0_survey_strides, .ref h0_survey_halvesFound])), (h0_survey_roots, .inr (1, [.ref h0_survey_roots_least, .int t_survey_roots_prime])), (h0_survey_roots_least, .inl (k_t_survey_roots_least, 10007, .inl t_survey_roots_least))]) hD hS hA0 [1, 2, 3] rfl
      refine va_calli (va_runV (As := [.int a0, .int a1]) (rest := []) ⟨hx, hb, hml, hown, hts⟩ (ctX3_pairsWith l N dC dI _ h0_survey h0_survey_roots h0_survey_roots_least h0_survey_strides h0_survey_halvesFound k_t_survey_roots_least t_survey_roots_prime t_survey_roots_least a0 a1 r4 hr4) (cwV 2 hts gX5_census_X3_pairsWith rfl rfl rfl (by decide +kernel) ⟨Nat.le_of_ble_eq_true rfl, Nat.le_of_ble_eq_true rfl⟩) ⟨fun a U g mk q => by obtain ⟨q0, q1, qP, qK, qN, qD⟩ := q; exact ⟨q0, q1, qP, va_K.moved (u := U) (U := U.calling g mk a) (Vm.Alike.refl U.vm) qK, nw_same (u := U) (U := U.calling g mk a) rfl qN, qD⟩, va_recv hKc hPc (ci := 3) (q0 := 0) rfl rfl, fun U hU hW => ⟨rfl, by rw [hU], by rw [hU]; exact hPc, va_K.moved hW.alike hKc, nw_warm hW hN, hDc.weaken (fun _ _ _ _ => trivial)⟩⟩ rfl rfl hl.1 rfl (lv_room (Nat.le_of_ble_eq_true rfl)) dX5_census_24 ⟨Nat.le_of_ble_eq_true rfl, Nat.le_of_ble_eq_true rfl⟩) hS (fun q _ h => hFc q h) hFc (fun rz u t H1 locs ht hvm hw hB1 hz1 hk1 hS => ?_)
      obtain ⟨u5, f6⟩ := u
      obtain ⟨hP1, hK1, hD1⟩ := hB1
      rw [ht] at hP1
      have hK1 := va_K.moved hvm.symm hK1
      obtain ⟨r7, rfl⟩ : ∃ z, z = rz := ⟨_, rfl⟩
      subst hw
      try dsimp only at h
      obtain ⟨hP, hD⟩ := va_join (wr := [(h0, .inr (4, [.ref h0_held, .int t_size, .ref h0_survey]))]) (w1 := [(h0_survey, .inr (3, [.ref h0_survey_roots, .ref h0_survey_strides, .ref h0_survey_halvesFound])), (h0_survey_roots, .inr (1, [.ref h0_survey_roots_least, .int u5])), (h0_survey_roots_least, .inl (k_t_survey_roots_least, 10007, .inl f6))]) hP hD [1, 2, 3] [0] rfl rfl (by decide) (by decide) hk1 hFc hP1 hD1
      generalize H1 = H at hP hS ⊢
      have hP := hP.sub (ws' := [(h0, .inr (4, [.ref h0_held, .int t_size, .ref h0_survey])), (h0_survey, .inr (3, [.ref h0_survey_roots, .ref h0_survey_strides, .ref h0_survey_halvesFound])), (h0_survey_roots, .inr (1, [.ref h0_survey_roots_least, .int u5])), (h0_survey_roots_least, .inl (k_t_survey_roots_least, 10007, .inl f6))]) [0, 1, 2, 3] rfl
      have hD := hD.sub (ws' := [(h0, .inr (4, [.ref h0_held, .int t_size, .ref h0_survey])), (h0_survey, .inr (3, [.ref h0_survey_roots, .ref h0_survey_strides, .ref h0_survey_halvesFound])), (h0_survey_roots, .inr (1, [.ref h0_survey_roots_least, .int u5])), (h0_survey_roots_least, .inl (k_t_survey_roots_least, 10007, .inl f6))]) [0, 1, 2, 3] (by decide) rfl
      have hv : (r7, u5, f6) = rr := Option.some.inj h
      have hP9 := hP.sub (ws' := [(h0, .inr (4, [.ref h0_held, .int t_size, .ref h0_survey])), (h0_survey, .inr (3, [.ref h0_survey_roots, .ref h0_survey_strides, .ref h0_survey_halvesFound])), (h0_survey_roots, .inr (1, [.ref h0_survey_roots_least, .int u5])), (h0_survey_roots_least, .inl (k_t_survey_roots_least, 10007, .inl f6))]) [0, 1, 2, 3] rfl
      have hD9 := hD.sub (ws' := [(h0, .inr (4, [.ref h0_held, .int t_size, .ref h0_survey])), (h0_survey, .inr (3, [.ref h0_survey_roots, .ref h0_survey_strides, .ref h0_survey_halvesFound])), (h0_survey_roots, .inr (1, [.ref h0_survey_roots_least, .int u5])), (h0_survey_roots_least, .inl (k_t_survey_roots_least, 10007, .inl f6))]) [0, 1, 2, 3] (by decide) rfl
      have hK9 := hK.sub (tys' := [(k_t_survey_roots_least, .int)]) [0] rfl
      exact W.iret (v := r7) hx hb hr (fun t ht hW => ⟨⟨r7, (u5, f6), rfl, hv, by rw [ht]; exact hP9, va_K.moved hW.alike hK9, hD9⟩, hS.F ht⟩) hS.2.2 dX5_census_27
    · replace h := (if_pos c3).symm.trans h
      refine lv_bipush (v := (-2)) hx hb dX5_census_13 (by decide) ?_
      refine lv_goto (tgt := 27) hx hb dX5_census_15 (by decide) ?_
      have hv : ((-2), t_survey_roots_prime, t_survey_roots_least) = rr := Option.some.inj h
      have hP9 := hP.sub (ws' := [(h0, .inr (4, [.ref h0_held, .int t_size, .ref h0_survey])), (h0_survey, .inr (3, [.ref h0_survey_roots, .ref h0_survey_strides, .ref h0_survey_halvesFound])), (h0_survey_roots, .inr (1, [.ref h0_survey_roots_least, .int t_survey_roots_prime])), (h0_survey_roots_least, .inl (k_t_survey_roots_least, 10007, .inl t_survey_roots_least))]) [0, 1, 2, 3] rfl
      have hD9 := hD.sub (ws' := [(h0, .inr (4, [.ref h0_held, .int t_size, .ref h0_survey])), (h0_survey, .inr (3, [.ref h0_survey_roots, .ref h0_survey_strides, .ref h0_survey_halvesFound])), (h0_survey_roots, .inr (1, [.ref h0_survey_roots_least, .int t_survey_roots_prime])), (h0_survey_roots_least, .inl (k_t_survey_roots_least, 10007, .inl t_survey_roots_least))]) [0, 1, 2, 3] (by decide) rfl
      have hK9 := hK.sub (tys' := [(k_t_survey_roots_least, .int)]) [0] rfl
      exact W.iret (v := (-2)) hx hb hr (fun t ht hW => ⟨⟨(-2), (t_survey_roots_prime, t_survey_roots_least), rfl, hv, by rw [ht]; exact hP9, va_K.moved hW.alike hK9, hD9⟩, hS.F ht⟩) hS.2.2 dX5_census_27
