def mX5_sign_s (N : Nat) (t_survey_roots_prime : Int32) (t_survey_roots_least : Nat → Int32) (y0_p : Int32) (y0_a : Int32) (y0_b : Int32) (y0_points : Int32) (a0 : Int32) (a1 : Int32) (a2 : Int32) (a3 : Int32) (a4 : Int32) (a5 : Int32) : Option (Int32 × Int32 × (Nat → Int32) × Int32) := (mX5_primeOrder_s N t_survey_roots_prime t_survey_roots_least y0_p y0_a y0_b y0_points a1).bind (fun r2 => match r2 with | (r6, u3, f4, u5) => if r6 = 0 then some ((-2), u3, f4, u5) else if a2 < 1 then some ((-2), u3, f4, u5) else if r6 ≤ a2 then some ((-2), u3, f4, u5) else if a3 < 1 then some ((-2), u3, f4, u5) else if r6 ≤ a3 then some ((-2), u3, f4, u5) else if a4 < 0 then some ((-2), u3, f4, u5) else if a5 < 0 then some ((-2), u3, f4, u5) else if a5 ≤ 1 then (mX0_multiple N y0_p y0_a a1 a3.toInt64).bind (fun r15 => if r15 = (-1) then if r6 = 0 then none else mi_let (mi_rem a4 r6) (fun v31 => if r6 = 0 then none else mi_let (mi_rem (v31 + (0 * a2)) r6) (fun v33 => (mX4_inverted N a3 r6).bind (fun r34 => if r6 = 0 then none else mi_let (mi_rem (v33 * r34) r6) (fun v36 => some ((-3), u3, f4, u5))))) else (mX5_xOf N r15).bind (fun r17 => if r6 = 0 then none else mi_let (mi_rem r17 r6) (fun v19 => if r6 = 0 then none else mi_let (mi_rem a4 r6) (fun v21 => if r6 = 0 then none else mi_let (mi_rem (v21 + (v19 * a2)) r6) (fun v23 => (mX4_inverted N a3 r6).bind (fun r24 => if r6 = 0 then none else mi_let (mi_rem (v23 * r24) r6) (fun v26 => if v19 = 0 then some ((-3), u3, f4, u5) else if v26 = 0 then some ((-3), u3, f4, u5) else if a5 = 0 then some (v19, u3, f4, u5) else some (v26, u3, f4, u5)))))))) else some ((-2), u3, f4, u5))
abbrev rmX5_sign_s : Room := { frames := 6, cells := 0, slots := 0, locals := 137 }
set_option maxHeartbeats 4000000 in
set_option maxRecDepth 100000 in
theorem ctX5_sign_s (l : Launch) (N : Nat) (dC : Nat → ClassId) (dI : Nat → Nat → Nat) (sz : Nat) (h0 : Nat) (h0_held : Nat) (h0_survey : Nat) (h0_survey_roots : Nat) (h0_survey_roots_least : Nat) (y0 : Nat) (h0_survey_strides : Nat) (h0_survey_halvesFound : Nat) (k_t_held : ClassId) (k_t_survey_roots_least : ClassId) (t_size : Int32) (t_held : Nat → Option Nat) (t_survey_roots_prime : Int32) (t_survey_roots_least : Nat → Int32) (y0_p : Int32) (y0_a : Int32) (y0_b : Int32) (y0_from : Int32) (y0_kernelPoint : Int32) (y0_kernelOrder : Int32) (y0_points : Int32) (y0_inner : Int32) (y0_outer : Int32) (y0_makersFound : Int32) (y0_first : Int32) (y0_second : Int32) (a0 : Int32) (a1 : Int32) (a2 : Int32) (a3 : Int32) (a4 : Int32) (a5 : Int32) (rr : Int32 × Int32 × (Nat → Int32) × Int32) (h : mX5_sign_s N t_survey_roots_prime t_survey_roots_least y0_p y0_a y0_b y0_points a0 a1 a2 a3 a4 a5 = some rr) (hk0 : mX5_at N t_size t_held a0 = some (some y0)) : Met l yX5_sign wsX5_sign rmX5_sign_s (va_Pc [.ref h0, .int a0, .int a1, .int a2, .int a3, .int a4, .int a5] (fun U => U.heap.size = sz ∧ va_P (dC, dI) vwCl [(h0, .inr (4, [.ref h0_held, .int t_size, .ref h0_survey])), (h0_held, .inl (k_t_held, 24, .inr (.inr (.inr (.inr t_held))))), (h0_survey, .inr (3, [.ref h0_survey_roots, .ref h0_survey_strides, .ref h0_survey_halvesFound])), (h0_survey_roots, .inr (1, [.ref h0_survey_roots_least, .int t_survey_roots_prime])), (h0_survey_roots_least, .inl (k_t_survey_roots_least, 10007, .inl t_survey_roots_least)), (y0, .inr (0, [.int y0_p, .int y0_a, .int y0_b, .int y0_from, .int y0_kernelPoint, .int y0_kernelOrder, .int y0_points, .int y0_inner, .int y0_outer, .int y0_makersFound, .int y0_first, .int y0_second]))] U.heap ∧ va_K (dC, dI) vwCl [(k_t_held, .object "PointRings$Curve"), (k_t_survey_roots_least, .int)] U ∧ nw_all U ∧ va_D (fun _ => True) [(h0, .inr (4, [.ref h0_held, .int t_size, .ref h0_survey])), (h0_held, .inl (k_t_held, 24, .inr (.inr (.inr (.inr t_held))))), (h0_survey, .inr (3, [.ref h0_survey_roots, .ref h0_survey_strides, .ref h0_survey_halvesFound])), (h0_survey_roots, .inr (1, [.ref h0_survey_roots_least, .int t_survey_roots_prime])), (h0_survey_roots_least, .inl (k_t_survey_roots_least, 10007, .inl t_survey_roots_least)), (y0, .inr (0, [.int y0_p, .int y0_a, .int y0_b, .int y0_from, .int y0_kernelPoint, .int y0_kernelOrder, .int y0_points, .int y0_inner, .int y0_outer, .int y0_makersFound, .int y0_first, .int y0_second]))])) (va_Qi (fun (r : Int32) (u : Int32 × (Nat → Int32) × Int32) => (r, u) = rr) (fun (u : Int32 × (Nat → Int32) × Int32) t => match u with | (u0, u1, u2) => va_P (dC, dI) vwCl [(h0, .inr (4, [.ref h0_held, .int t_size, .ref h0_survey])), (h0_held, .inl (k_t_held, 24, .inr (.inr (.inr (.inr t_held))))), (h0_survey, .inr (3, [.ref h0_survey_roots, .ref h0_survey_strides, .ref h0_survey_halvesFound])), (h0_survey_roots, .inr (1, [.ref h0_survey_roots_least, .int u0])), (h0_survey_roots_least, .inl (k_t_survey_roots_least, 10007, .inl u1)), (y0, .inr (0, [.int y0_p, .int y0_a, .int y0_b, .int y0_from, .int y0_kernelPoint, .int y0_kernelOrder, .int u2, .int y0_inner, .int y0_outer, .int y0_makersFound, .int y0_first, .int y0_second]))] t.heap ∧ va_K (dC, dI) vwCl [(k_t_held, .object "PointRings$Curve"), (k_t_survey_roots_least, .int)] t ∧ va_D (va_A [(h0, .inr (4, [.ref h0_held, .int t_size, .ref h0_survey])), (h0_held, .inl (k_t_held, 24, .inr (.inr (.inr (.inr t_held))))), (h0_survey, .inr (3, [.ref h0_survey_roots, .ref h0_survey_strides, .ref h0_survey_halvesFound])), (h0_survey_roots, .inr (1, [.ref h0_survey_roots_least, .int t_survey_roots_prime])), (h0_survey_roots_least, .inl (k_t_survey_roots_least, 10007, .inl t_survey_roots_least)), (y0, .inr (0, [.int y0_p, .int y0_a, .int y0_b, .int y0_from, .int y0_kernelPoint, .int y0_kernelOrder, .int y0_points, .int y0_inner, .int y0_outer, .int y0_makersFound, .int y0_first, .int y0_second]))] sz) [(h0, .inr (4, [.ref h0_held, .int t_size, .ref h0_survey])), (h0_held, .inl (k_t_held, 24, .inr (.inr (.inr (.inr t_held))))), (h0_survey, .inr (3, [.ref h0_survey_roots, .ref h0_survey_strides, .ref h0_survey_halvesFound])), (h0_survey_roots, .inr (1, [.ref h0_survey_roots_least, .int u0])), (h0_survey_roots_least, .inl (k_t_survey_roots_least, 10007, .inl u1)), (y0, .inr (0, [.int y0_p, .int y0_a, .int y0_b, .int y0_from, .int y0_kernelPoint, .int y0_kernelOrder, .int u2, .int y0_inner, .int y0_outer, .int y0_makersFound, .int y0_first, .int y0_second]))]) (va_A [(h0, .inr (4, [.ref h0_held, .int t_size, .ref h0_survey])), (h0_held, .inl (k_t_held, 24, .inr (.inr (.inr (.inr t_held))))), (h0_survey, .inr (3, [.ref h0_survey_roots, .ref h0_survey_strides, .ref h0_survey_halvesFound])), (h0_survey_roots, .inr (1, [.ref h0_survey_roots_least, .int t_survey_roots_prime])), (h0_survey_roots_least, .inl (k_t_survey_roots_least, 10007, .inl t_survey_roots_least)), (y0, .inr (0, [.int y0_p, .int y0_a, .int y0_b, .int y0_from, .int y0_kernelPoint, .int y0_kernelOrder, .int y0_points, .int y0_inner, .int y0_outer, .int y0_makersFound, .int y0_first, .int y0_second]))] sz)) 0 0 (va_A [(h0, .inr (4, [.ref h0_held, .int t_size, .ref h0_survey])), (h0_held, .inl (k_t_held, 24, .inr (.inr (.inr (.inr t_held))))), (h0_survey, .inr (3, [.ref h0_survey_roots, .ref h0_survey_strides, .ref h0_survey_halvesFound])), (h0_survey_roots, .inr (1, [.ref h0_survey_roots_least, .int t_survey_roots_prime])), (h0_survey_roots_least, .inl (k_t_survey_roots_least, 10007, .inl t_survey_roots_least)), (y0, .inr (0, [.int y0_p, .int y0_a, .int y0_b, .int y0_from, .int y0_kernelPoint, .int y0_kernelOrder, .int y0_points, .int y0_inner, .int y0_outer, .int y0_makersFound, .int y0_first, .int y0_second]))] sz) := by
  refine Met.ofW (cc := cX5_sign) (maxL := 12) (ret := (some .int)) (by decide) rfl ?_
  intro p e s m args below meth c s₁ B hml hv
  obtain ⟨rfl, hsz, hP, hK, hN, hD0⟩ := hv
  have hx := B.exec
  have hb := B.bytes
  have hr := B.returns
  have hts := atoms_spec (ws := wsX5_sign) B.pre
  have hown : s.vm.findClass RX5 = some m.cls := findClass_of_methodNamed B.named
  have hlocks := B.notSynchronized
  subst hsz
  have hD := hD0.self (sz := s.heap.size)
  generalize hAe : va_A [(h0, .inr (4, [.ref h0_held, .int t_size, .ref h0_survey])), (h0_held, .inl (k_t_held, 24, .inr (.inr (.inr (.inr t_held))))), (h0_survey, .inr (3, [.ref h0_survey_roots, .ref h0_survey_strides, .ref h0_survey_halvesFound])), (h0_survey_roots, .inr (1, [.ref h0_survey_roots_least, .int t_survey_roots_prime])), (h0_survey_roots_least, .inl (k_t_survey_roots_least, 10007, .inl t_survey_roots_least)), (y0, .inr (0, [.int y0_p, .int y0_a, .int y0_b, .int y0_from, .int y0_kernelPoint, .int y0_kernelOrder, .int y0_points, .int y0_inner, .int y0_outer, .int y0_makersFound, .int y0_first, .int y0_second]))] s.heap.size = A at hD ⊢
  have hA0 : ∀ q : Nat, s.heap.size ≤ q → A q := fun q h => by rw [← hAe]; exact Or.inr h
  have hS : va_S A s.heap s.heap [] := va_S.rf
  have hP : va_P (dC, dI) vwCl [(h0, .inr (4, [.ref h0_held, .int t_size, .ref h0_survey])), (h0_held, .inl (k_t_held, 24, .inr (.inr (.inr (.inr t_held))))), (h0_survey, .inr (3, [.ref h0_survey_roots, .ref h0_survey_strides, .ref h0_survey_halvesFound])), (h0_survey_roots, .inr (1, [.ref h0_survey_roots_least, .int t_survey_roots_prime])), (h0_survey_roots_least, .inl (k_t_survey_roots_least, 10007, .inl t_survey_roots_least)), (y0, .inr (0, [.int y0_p, .int y0_a, .int y0_b, .int y0_from, .int y0_kernelPoint, .int y0_kernelOrder, .int y0_points, .int y0_inner, .int y0_outer, .int y0_makersFound, .int y0_first, .int y0_second]))] s.heap := hP
  have hl := lv_entry ([.ref h0, .int a0, .int a1, .int a2, .int a3, .int a4, .int a5]) (n := 12) (Nat.le_of_ble_eq_true rfl)
  rw [lg_entry_eq]
  generalize (lg_sl ([.ref h0, .int a0, .int a1, .int a2, .int a3, .int a4, .int a5]) ++ List.replicate (12 - (lg_sl ([.ref h0, .int a0, .int a1, .int a2, .int a3, .int a4, .int a5])).length) Slot.unset).toArray = ls at hl ⊢
  have hl : lv_has ls 12 [(0, .ref h0), (1, .int a0), (2, .int a1), (3, .int a2), (4, .int a3), (5, .int a4), (6, .int a5)] := hl
  dsimp only [mX5_sign_s] at h
  refine lv_aload_n hx hb dX5_sign_0 rfl (lv_at hl 0 rfl) ?_
  refine lv_iload_n hx hb dX5_sign_1 rfl (lv_at hl 1 rfl) ?_
  have hPc := hP.sub (ws' := [(h0, .inr (4, [.ref h0_held, .int t_size, .ref h0_survey])), (h0_held, .inl (k_t_held, 24, .inr (.inr (.inr (.inr t_held)))))]) [0, 1] rfl
  have hKc := hK.sub (tys' := [(k_t_held, .object "PointRings$Curve")]) [0] rfl
  refine va_csq (W.runV (As := [.int a0]) (rest := []) ⟨hx, hb, hml, hown, hts⟩ (ctX5_at l N dC dI  h0 h0_held h0_survey k_t_held t_size t_held a0 (some y0) hk0) (cwV 1 hts gX5_sign_X5_at rfl rfl rfl (by decide +kernel) ⟨Nat.le_of_ble_eq_true rfl, Nat.le_of_ble_eq_true rfl⟩) ⟨fun a U g mk q => by obtain ⟨q0, qP, qK, qN⟩ := q; exact ⟨q0, qP, va_K.moved (u := U) (U := U.calling g mk a) (Vm.Alike.refl U.vm) qK, nw_same (u := U) (U := U.calling g mk a) rfl qN⟩, va_recv hKc hPc (ci := 4) (q0 := 0) rfl rfl, fun U hU hW => ⟨rfl, by rw [hU]; exact hPc, va_K.moved hW.alike hKc, nw_warm hW hN⟩⟩ rfl rfl hl.1 rfl (lv_room (Nat.le_of_ble_eq_true rfl)) dX5_sign_2 ⟨Nat.le_of_ble_eq_true rfl, Nat.le_of_ble_eq_true rfl⟩) (fun q9 eq9 => ?_)
  subst q9
  refine lv_astore (lv' := [(7, .ref y0), (0, .ref h0), (1, .int a0), (2, .int a1), (3, .int a2), (4, .int a3), (5, .int a4), (6, .int a5)]) hx hb dX5_sign_5 hl (by decide) rfl (fun ls hl => ?_)
  refine lv_aload_n hx hb dX5_sign_7 rfl (lv_at hl 1 rfl) ?_
  refine lv_aload hx hb dX5_sign_8 (lv_at hl 0 rfl) ?_
  refine lv_iload_n hx hb dX5_sign_10 rfl (lv_at hl 3 rfl) ?_
  obtain ⟨r2, hr2, h⟩ := Option.bind_eq_some_iff.mp h
  have hPc := hP.sub (ws' := [(h0, .inr (4, [.ref h0_held, .int t_size, .ref h0_survey])), (h0_survey, .inr (3, [.ref h0_survey_roots, .ref h0_survey_strides, .ref h0_survey_halvesFound])), (h0_survey_roots, .inr (1, [.ref h0_survey_roots_least, .int t_survey_roots_prime])), (h0_survey_roots_least, .inl (k_t_survey_roots_least, 10007, .inl t_survey_roots_least)), (y0, .inr (0, [.int y0_p, .int y0_a, .int y0_b, .int y0_from, .int y0_kernelPoint, .int y0_kernelOrder, .int y0_points, .int y0_inner, .int y0_outer, .int y0_makersFound, .int y0_first, .int y0_second]))]) [0, 2, 3, 4, 5] rfl
  have hDc := hD.sub (ws' := [(h0, .inr (4, [.ref h0_held, .int t_size, .ref h0_survey])), (h0_survey, .inr (3, [.ref h0_survey_roots, .ref h0_survey_strides, .ref h0_survey_halvesFound])), (h0_survey_roots, .inr (1, [.ref h0_survey_roots_least, .int t_survey_roots_prime])), (h0_survey_roots_least, .inl (k_t_survey_roots_least, 10007, .inl t_survey_roots_least)), (y0, .inr (0, [.int y0_p, .int y0_a, .int y0_b, .int y0_from, .int y0_kernelPoint, .int y0_kernelOrder, .int y0_points, .int y0_inner, .int y0_outer, .int y0_makersFound, .int y0_first, .int y0_second]))]) [0, 2, 3, 4, 5] (by decide) rfl
  have hKc := hK.sub (tys' := [(k_t_survey_roots_least, .int)]) [1] rfl
  have hFc := va_free (wc := [(h0, .inr (4, [.ref h0_held, .int t_size, .ref h0_survey])), (h0_survey, .inr (3, [.ref h0_survey_roots, .ref h0_survey_strides, .ref h0_survey_halvesFound])), (h0_survey_roots, .inr (1, [.ref h0_survey_roots_least, .int t_survey_roots_prime])), (h0_survey_roots_least, .inl (k_t_survey_roots_least, 10007, .inl t_survey_roots_least)), (y0, .inr (0, [.int y0_p, .int y0_a, .int y0_b, .int y0_from, .int y0_kernelPoint, .int y0_kernelOrder, .int y0_points, .int y0_inner, .int y0_outer, .int y0_makersFound, .int y0_first, .int y0_second]))]) hD hS hA0 [0, 2, 3, 4, 5] rfl
  refine va_calli (va_runV (As := [.ref y0, .int a1]) (rest := []) ⟨hx, hb, hml, hown, hts⟩ (ctX5_primeOrder_s l N dC dI _ h0 h0_survey h0_survey_roots h0_survey_roots_least y0 h0_held h0_survey_strides h0_survey_halvesFound k_t_survey_roots_least t_size t_survey_roots_prime t_survey_roots_least y0_p y0_a y0_b y0_from y0_kernelPoint y0_kernelOrder y0_points y0_inner y0_outer y0_makersFound y0_first y0_second a1 r2 hr2) (cwV 2 hts gX5_sign_X5_primeOrder rfl rfl rfl (by decide +kernel) ⟨Nat.le_of_ble_eq_true rfl, Nat.le_of_ble_eq_true rfl⟩) ⟨fun a U g mk q => by obtain ⟨q0, q1, qP, qK, qN, qD⟩ := q; exact ⟨q0, q1, qP, va_K.moved (u := U) (U := U.calling g mk a) (Vm.Alike.refl U.vm) qK, nw_same (u := U) (U := U.calling g mk a) rfl qN, qD⟩, va_recv hKc hPc (ci := 4) (q0 := 0) rfl rfl, fun U hU hW => ⟨rfl, by rw [hU], by rw [hU]; exact hPc, va_K.moved hW.alike hKc, nw_warm hW hN, hDc.weaken (fun _ _ _ _ => trivial)⟩⟩ rfl rfl hl.1 rfl (lv_room (Nat.le_of_ble_eq_true rfl)) dX5_sign_11 ⟨Nat.le_of_ble_eq_true rfl, Nat.le_of_ble_eq_true rfl⟩) hS (fun q _ h => hFc q h) hFc (fun rz u t H1 locs ht hvm hw hB1 hz1 hk1 hS => ?_)
  obtain ⟨u3, f4, u5⟩ := u
  obtain ⟨hP1, hK1, hD1⟩ := hB1
  rw [ht] at hP1
  have hK1 := va_K.moved hvm.symm hK1
  obtain ⟨r6, rfl⟩ : ∃ z, z = rz := ⟨_, rfl⟩
  subst hw
  try dsimp only at h
  obtain ⟨hP, hD⟩ := va_join (wr := [(h0_held, .inl (k_t_held, 24, .inr (.inr (.inr (.inr t_held)))))]) (w1 := [(h0, .inr (4, [.ref h0_held, .int t_size, .ref h0_survey])), (h0_survey, .inr (3, [.ref h0_survey_roots, .ref h0_survey_strides, .ref h0_survey_halvesFound])), (h0_survey_roots, .inr (1, [.ref h0_survey_roots_least, .int u3])), (h0_survey_roots_least, .inl (k_t_survey_roots_least, 10007, .inl f4)), (y0, .inr (0, [.int y0_p, .int y0_a, .int y0_b, .int y0_from, .int y0_kernelPoint, .int y0_kernelOrder, .int u5, .int y0_inner, .int y0_outer, .int y0_makersFound, .int y0_first, .int y0_second]))]) hP hD [0, 2, 3, 4, 5] [1] rfl rfl (by decide) (by decide) hk1 hFc hP1 hD1
  generalize H1 = H at hP hS ⊢
  have hP := hP.sub (ws' := [(h0, .inr (4, [.ref h0_held, .int t_size, .ref h0_survey])), (h0_held, .inl (k_t_held, 24, .inr (.inr (.inr (.inr t_held))))), (h0_survey, .inr (3, [.ref h0_survey_roots, .ref h0_survey_strides, .ref h0_survey_halvesFound])), (h0_survey_roots, .inr (1, [.ref h0_survey_roots_least, .int u3])), (h0_survey_roots_least, .inl (k_t_survey_roots_least, 10007, .inl f4)), (y0, .inr (0, [.int y0_p, .int y0_a, .int y0_b, .int y0_from, .int y0_kernelPoint, .int y0_kernelOrder, .int u5, .int y0_inner, .int y0_outer, .int y0_makersFound, .int y0_first, .int y0_second]))]) [1, 0, 2, 3, 4, 5] rfl
  have hD := hD.sub (ws' := [(h0, .inr (4, [.ref h0_held, .int t_size, .ref h0_survey])), (h0_held, .inl (k_t_held, 24, .inr (.inr (.inr (.inr t_held))))), (h0_survey, .inr (3, [.ref h0_survey_roots, .ref h0_survey_strides, .ref h0_survey_halvesFound])), (h0_survey_roots, .inr (1, [.ref h0_survey_roots_least, .int u3])), (h0_survey_roots_least, .inl (k_t_survey_roots_least, 10007, .inl f4)), (y0, .inr (0, [.int y0_p, .int y0_a, .int y0_b, .int y0_from, .int y0_kernelPoint, .int y0_kernelOrder, .int u5, .int y0_inner, .int y0_outer, .int y0_makersFound, .int y0_first, .int y0_second]))]) [1, 0, 2, 3, 4, 5] (by decide) rfl
  refine lv_istore (lv' := [(8, .int r6), (7, .ref y0), (0, .ref h0), (1, .int a0), (2, .int a1), (3, .int a2), (4, .int a3), (5, .int a4), (6, .int a5)]) hx hb dX5_sign_14 hl (by decide) rfl (fun ls hl => ?_)
  refine lv_iload hx hb dX5_sign_16 (lv_at hl 0 rfl) ?_
  refine lv_if_eq (tgt := 61) hx hb dX5_sign_18 (by decide) (fun c7 => ?_) (fun c7 => ?_)
  · replace h := (if_pos c7).symm.trans h
    refine lv_bipush (v := (-2)) hx hb dX5_sign_61 (by decide) ?_
    have hv : ((-2), u3, f4, u5) = rr := Option.some.inj h
    have hP9 := hP.sub (ws' := [(h0, .inr (4, [.ref h0_held, .int t_size, .ref h0_survey])), (h0_held, .inl (k_t_held, 24, .inr (.inr (.inr (.inr t_held))))), (h0_survey, .inr (3, [.ref h0_survey_roots, .ref h0_survey_strides, .ref h0_survey_halvesFound])), (h0_survey_roots, .inr (1, [.ref h0_survey_roots_least, .int u3])), (h0_survey_roots_least, .inl (k_t_survey_roots_least, 10007, .inl f4)), (y0, .inr (0, [.int y0_p, .int y0_a, .int y0_b, .int y0_from, .int y0_kernelPoint, .int y0_kernelOrder, .int u5, .int y0_inner, .int y0_outer, .int y0_makersFound, .int y0_first, .int y0_second]))]) [0, 1, 2, 3, 4, 5] rfl
    have hD9 := hD.sub (ws' := [(h0, .inr (4, [.ref h0_held, .int t_size, .ref h0_survey])), (h0_held, .inl (k_t_held, 24, .inr (.inr (.inr (.inr t_held))))), (h0_survey, .inr (3, [.ref h0_survey_roots, .ref h0_survey_strides, .ref h0_survey_halvesFound])), (h0_survey_roots, .inr (1, [.ref h0_survey_roots_least, .int u3])), (h0_survey_roots_least, .inl (k_t_survey_roots_least, 10007, .inl f4)), (y0, .inr (0, [.int y0_p, .int y0_a, .int y0_b, .int y0_from, .int y0_kernelPoint, .int y0_kernelOrder, .int u5, .int y0_inner, .int y0_outer, .int y0_makersFound, .int y0_first, .int y0_second]))]) [0, 1, 2, 3, 4, 5] (by decide) rfl
    have hK9 := hK.sub (tys' := [(k_t_held, .object "PointRings$Curve"), (k_t_survey_roots_least, .int)]) [0, 1] rfl
    exact W.iret (v := (-2)) hx hb hr (fun t ht hW => ⟨⟨(-2), (u3, f4, u5), rfl, hv, by rw [ht]; exact hP9, va_K.moved hW.alike hK9, hD9⟩, hS.F ht⟩) hS.2.2 dX5_sign_63
  · replace h := (if_neg c7).symm.trans h
    refine lv_iload_n hx hb dX5_sign_21 rfl (lv_at hl 5 rfl) ?_
    refine lv_iconst (v := 1) hx hb dX5_sign_22 (by decide) ?_
    refine lv_icmp_lt (tgt := 61) hx hb dX5_sign_23 (by decide) (fun c8 => ?_) (fun c8 => ?_)
    · replace h := (if_pos c8).symm.trans h
      refine lv_bipush (v := (-2)) hx hb dX5_sign_61 (by decide) ?_
      have hv : ((-2), u3, f4, u5) = rr := Option.some.inj h
      have hP9 := hP.sub (ws' := [(h0, .inr (4, [.ref h0_held, .int t_size, .ref h0_survey])), (h0_held, .inl (k_t_held, 24, .inr (.inr (.inr (.inr t_held))))), (h0_survey, .inr (3, [.ref h0_survey_roots, .ref h0_survey_strides, .ref h0_survey_halvesFound])), (h0_survey_roots, .inr (1, [.ref h0_survey_roots_least, .int u3])), (h0_survey_roots_least, .inl (k_t_survey_roots_least, 10007, .inl f4)), (y0, .inr (0, [.int y0_p, .int y0_a, .int y0_b, .int y0_from, .int y0_kernelPoint, .int y0_kernelOrder, .int u5, .int y0_inner, .int y0_outer, .int y0_makersFound, .int y0_first, .int y0_second]))]) [0, 1, 2, 3, 4, 5] rfl
      have hD9 := hD.sub (ws' := [(h0, .inr (4, [.ref h0_held, .int t_size, .ref h0_survey])), (h0_held, .inl (k_t_held, 24, .inr (.inr (.inr (.inr t_held))))), (h0_survey, .inr (3, [.ref h0_survey_roots, .ref h0_survey_strides, .ref h0_survey_halvesFound])), (h0_survey_roots, .inr (1, [.ref h0_survey_roots_least, .int u3])), (h0_survey_roots_least, .inl (k_t_survey_roots_least, 10007, .inl f4)), (y0, .inr (0, [.int y0_p, .int y0_a, .int y0_b, .int y0_from, .int y0_kernelPoint, .int y0_kernelOrder, .int u5, .int y0_inner, .int y0_outer, .int y0_makersFound, .int y0_first, .int y0_second]))]) [0, 1, 2, 3, 4, 5] (by decide) rfl
      have hK9 := hK.sub (tys' := [(k_t_held, .object "PointRings$Curve"), (k_t_survey_roots_least, .int)]) [0, 1] rfl
      exact W.iret (v := (-2)) hx hb hr (fun t ht hW => ⟨⟨(-2), (u3, f4, u5), rfl, hv, by rw [ht]; exact hP9, va_K.moved hW.alike hK9, hD9⟩, hS.F ht⟩) hS.2.2 dX5_sign_63
    · replace h := (if_neg c8).symm.trans h
      refine lv_iload_n hx hb dX5_sign_26 rfl (lv_at hl 5 rfl) ?_
      refine lv_iload hx hb dX5_sign_27 (lv_at hl 0 rfl) ?_
      refine lv_icmp_ge (tgt := 61) hx hb dX5_sign_29 (by decide) (fun c9 => ?_) (fun c9 => ?_)
      · replace h := (if_pos c9).symm.trans h
        refine lv_bipush (v := (-2)) hx hb dX5_sign_61 (by decide) ?_
        have hv : ((-2), u3, f4, u5) = rr := Option.some.inj h
        have hP9 := hP.sub (ws' := [(h0, .inr (4, [.ref h0_held, .int t_size, .ref h0_survey])), (h0_held, .inl (k_t_held, 24, .inr (.inr (.inr (.inr t_held))))), (h0_survey, .inr (3, [.ref h0_survey_roots, .ref h0_survey_strides, .ref h0_survey_halvesFound])), (h0_survey_roots, .inr (1, [.ref h0_survey_roots_least, .int u3])), (h0_survey_roots_least, .inl (k_t_survey_roots_least, 10007, .inl f4)), (y0, .inr (0, [.int y0_p, .int y0_a, .int y0_b, .int y0_from, .int y0_kernelPoint, .int y0_kernelOrder, .int u5, .int y0_inner, .int y0_outer, .int y0_makersFound, .int y0_first, .int y0_second]))]) [0, 1, 2, 3, 4, 5] rfl
        have hD9 := hD.sub (ws' := [(h0, .inr (4, [.ref h0_held, .int t_size, .ref h0_survey])), (h0_held, .inl (k_t_held, 24, .inr (.inr (.inr (.inr t_held))))), (h0_survey, .inr (3, [.ref h0_survey_roots, .ref h0_survey_strides, .ref h0_survey_halvesFound])), (h0_survey_roots, .inr (1, [.ref h0_survey_roots_least, .int u3])), (h0_survey_roots_least, .inl (k_t_survey_roots_least, 10007, .inl f4)), (y0, .inr (0, [.int y0_p, .int y0_a, .int y0_b, .int y0_from, .int y0_kernelPoint, .int y0_kernelOrder, .int u5, .int y0_inner, .int y0_outer, .int y0_makersFound, .int y0_first, .int y0_second]))]) [0, 1, 2, 3, 4, 5] (by decide) rfl
        have hK9 := hK.sub (tys' := [(k_t_held, .object "PointRings$Curve"), (k_t_survey_roots_least, .int)]) [0, 1] rfl
        exact W.iret (v := (-2)) hx hb hr (fun t ht hW => ⟨⟨(-2), (u3, f4, u5), rfl, hv, by rw [ht]; exact hP9, va_K.moved hW.alike hK9, hD9⟩, hS.F ht⟩) hS.2.2 dX5_sign_63
      · replace h := (if_neg c9).symm.trans h
        refine lv_iload hx hb dX5_sign_32 (lv_at hl 6 rfl) ?_
        refine lv_iconst (v := 1) hx hb dX5_sign_34 (by decide) ?_
        refine lv_icmp_lt (tgt := 61) hx hb dX5_sign_35 (by decide) (fun c10 => ?_) (fun c10 => ?_)
        · replace h := (if_pos c10).symm.trans h
          refine lv_bipush (v := (-2)) hx hb dX5_sign_61 (by decide) ?_
          have hv : ((-2), u3, f4, u5) = rr := Option.some.inj h
          have hP9 := hP.sub (ws' := [(h0, .inr (4, [.ref h0_held, .int t_size, .ref h0_survey])), (h0_held, .inl (k_t_held, 24, .inr (.inr (.inr (.inr t_held))))), (h0_survey, .inr (3, [.ref h0_survey_roots, .ref h0_survey_strides, .ref h0_survey_halvesFound])), (h0_survey_roots, .inr (1, [.ref h0_survey_roots_least, .int u3])), (h0_survey_roots_least, .inl (k_t_survey_roots_least, 10007, .inl f4)), (y0, .inr (0, [.int y0_p, .int y0_a, .int y0_b, .int y0_from, .int y0_kernelPoint, .int y0_kernelOrder, .int u5, .int y0_inner, .int y0_outer, .int y0_makersFound, .int y0_first, .int y0_second]))]) [0, 1, 2, 3, 4, 5] rfl
          have hD9 := hD.sub (ws' := [(h0, .inr (4, [.ref h0_held, .int t_size, .ref h0_survey])), (h0_held, .inl (k_t_held, 24, .inr (.inr (.inr (.inr t_held))))), (h0_survey, .inr (3, [.ref h0_survey_roots, .ref h0_survey_strides, .ref h0_survey_halvesFound])), (h0_survey_roots, .inr (1, [.ref h0_survey_roots_least, .int u3])), (h0_survey_roots_least, .inl (k_t_survey_roots_least, 10007, .inl f4)), (y0, .inr (0, [.int y0_p, .int y0_a, .int y0_b, .int y0_from, .int y0_kernelPoint, .int y0_kernelOrder, .int u5, .int y0_inner, .int y0_outer, .int y0_makersFound, .int y0_first, .int y0_second]))]) [0, 1, 2, 3, 4, 5] (by decide) rfl
          have hK9 := hK.sub (tys' := [(k_t_held, .object "PointRings$Curve"), (k_t_survey_roots_least, .int)]) [0, 1] rfl
          exact W.iret (v := (-2)) hx hb hr (fun t ht hW => ⟨⟨(-2), (u3, f4, u5), rfl, hv, by rw [ht]; exact hP9, va_K.moved hW.alike hK9, hD9⟩, hS.F ht⟩) hS.2.2 dX5_sign_63
        · replace h := (if_neg c10).symm.trans h
          refine lv_iload hx hb dX5_sign_38 (lv_at hl 6 rfl) ?_
          refine lv_iload hx hb dX5_sign_40 (lv_at hl 0 rfl) ?_
          refine lv_icmp_ge (tgt := 61) hx hb dX5_sign_42 (by decide) (fun c11 => ?_) (fun c11 => ?_)
          · replace h := (if_pos c11).symm.trans h
            refine lv_bipush (v := (-2)) hx hb dX5_sign_61 (by decide) ?_
            have hv : ((-2), u3, f4, u5) = rr := Option.some.inj h
            have hP9 := hP.sub (ws' := [(h0, .inr (4, [.ref h0_held, .int t_size, .ref h0_survey])), (h0_held, .inl (k_t_held, 24, .inr (.inr (.inr (.inr t_held))))), (h0_survey, .inr (3, [.ref h0_survey_roots, .ref h0_survey_strides, .ref h0_survey_halvesFound])), (h0_survey_roots, .inr (1, [.ref h0_survey_roots_least, .int u3])), (h0_survey_roots_least, .inl (k_t_survey_roots_least, 10007, .inl f4)), (y0, .inr (0, [.int y0_p, .int y0_a, .int y0_b, .int y0_from, .int y0_kernelPoint, .int y0_kernelOrder, .int u5, .int y0_inner, .int y0_outer, .int y0_makersFound, .int y0_first, .int y0_second]))]) [0, 1, 2, 3, 4, 5] rfl
            have hD9 := hD.sub (ws' := [(h0, .inr (4, [.ref h0_held, .int t_size, .ref h0_survey])), (h0_held, .inl (k_t_held, 24, .inr (.inr (.inr (.inr t_held))))), (h0_survey, .inr (3, [.ref h0_survey_roots, .ref h0_survey_strides, .ref h0_survey_halvesFound])), (h0_survey_roots, .inr (1, [.ref h0_survey_roots_least, .int u3])), (h0_survey_roots_least, .inl (k_t_survey_roots_least, 10007, .inl f4)), (y0, .inr (0, [.int y0_p, .int y0_a, .int y0_b, .int y0_from, .int y0_kernelPoint, .int y0_kernelOrder, .int u5, .int y0_inner, .int y0_outer, .int y0_makersFound, .int y0_first, .int y0_second]))]) [0, 1, 2, 3, 4, 5] (by decide) rfl
            have hK9 := hK.sub (tys' := [(k_t_held, .object "PointRings$Curve"), (k_t_survey_roots_least, .int)]) [0, 1] rfl
            exact W.iret (v := (-2)) hx hb hr (fun t ht hW => ⟨⟨(-2), (u3, f4, u5), rfl, hv, by rw [ht]; exact hP9, va_K.moved hW.alike hK9, hD9⟩, hS.F ht⟩) hS.2.2 dX5_sign_63
          · replace h := (if_neg c11).symm.trans h
            refine lv_iload hx hb dX5_sign_45 (lv_at hl 7 rfl) ?_
            refine lv_if_lt (tgt := 61) hx hb dX5_sign_47 (by decide) (fun c12 => ?_) (fun c12 => ?_)
            · replace h := (if_pos c12).symm.trans h
              refine lv_bipush (v := (-2)) hx hb dX5_sign_61 (by decide) ?_
              have hv : ((-2), u3, f4, u5) = rr := Option.some.inj h
              have hP9 := hP.sub (ws' := [(h0, .inr (4, [.ref h0_held, .int t_size, .ref h0_survey])), (h0_held, .inl (k_t_held, 24, .inr (.inr (.inr (.inr t_held))))), (h0_survey, .inr (3, [.ref h0_survey_roots, .ref h0_survey_strides, .ref h0_survey_halvesFound])), (h0_survey_roots, .inr (1, [.ref h0_survey_roots_least, .int u3])), (h0_survey_roots_least, .inl (k_t_survey_roots_least, 10007, .inl f4)), (y0, .inr (0, [.int y0_p, .int y0_a, .int y0_b, .int y0_from, .int y0_kernelPoint, .int y0_kernelOrder, .int u5, .int y0_inner, .int y0_outer, .int y0_makersFound, .int y0_first, .int y0_second]))]) [0, 1, 2, 3, 4, 5] rfl
              have hD9 := hD.sub (ws' := [(h0, .inr (4, [.ref h0_held, .int t_size, .ref h0_survey])), (h0_held, .inl (k_t_held, 24, .inr (.inr (.inr (.inr t_held))))), (h0_survey, .inr (3, [.ref h0_survey_roots, .ref h0_survey_strides, .ref h0_survey_halvesFound])), (h0_survey_roots, .inr (1, [.ref h0_survey_roots_least, .int u3])), (h0_survey_roots_least, .inl (k_t_survey_roots_least, 10007, .inl f4)), (y0, .inr (0, [.int y0_p, .int y0_a, .int y0_b, .int y0_from, .int y0_kernelPoint, .int y0_kernelOrder, .int u5, .int y0_inner, .int y0_outer, .int y0_makersFound, .int y0_first, .int y0_second]))]) [0, 1, 2, 3, 4, 5] (by decide) rfl
              have hK9 := hK.sub (tys' := [(k_t_held, .object "PointRings$Curve"), (k_t_survey_roots_least, .int)]) [0, 1] rfl
              exact W.iret (v := (-2)) hx hb hr (fun t ht hW => ⟨⟨(-2), (u3, f4, u5), rfl, hv, by rw [ht]; exact hP9, va_K.moved hW.alike hK9, hD9⟩, hS.F ht⟩) hS.2.2 dX5_sign_63
            · replace h := (if_neg c12).symm.trans h
              refine lv_iload hx hb dX5_sign_50 (lv_at hl 8 rfl) ?_
              refine lv_if_lt (tgt := 61) hx hb dX5_sign_52 (by decide) (fun c13 => ?_) (fun c13 => ?_)
              · replace h := (if_pos c13).symm.trans h
                refine lv_bipush (v := (-2)) hx hb dX5_sign_61 (by decide) ?_
                have hv : ((-2), u3, f4, u5) = rr := Option.some.inj h
                have hP9 := hP.sub (ws' := [(h0, .inr (4, [.ref h0_held, .int t_size, .ref h0_survey])), (h0_held, .inl (k_t_held, 24, .inr (.inr (.inr (.inr t_held))))), (h0_survey, .inr (3, [.ref h0_survey_roots, .ref h0_survey_strides, .ref h0_survey_halvesFound])), (h0_survey_roots, .inr (1, [.ref h0_survey_roots_least, .int u3])), (h0_survey_roots_least, .inl (k_t_survey_roots_least, 10007, .inl f4)), (y0, .inr (0, [.int y0_p, .int y0_a, .int y0_b, .int y0_from, .int y0_kernelPoint, .int y0_kernelOrder, .int u5, .int y0_inner, .int y0_outer, .int y0_makersFound, .int y0_first, .int y0_second]))]) [0, 1, 2, 3, 4, 5] rfl
                have hD9 := hD.sub (ws' := [(h0, .inr (4, [.ref h0_held, .int t_size, .ref h0_survey])), (h0_held, .inl (k_t_held, 24, .inr (.inr (.inr (.inr t_held))))), (h0_survey, .inr (3, [.ref h0_survey_roots, .ref h0_survey_strides, .ref h0_survey_halvesFound])), (h0_survey_roots, .inr (1, [.ref h0_survey_roots_least, .int u3])), (h0_survey_roots_least, .inl (k_t_survey_roots_least, 10007, .inl f4)), (y0, .inr (0, [.int y0_p, .int y0_a, .int y0_b, .int y0_from, .int y0_kernelPoint, .int y0_kernelOrder, .int u5, .int y0_inner, .int y0_outer, .int y0_makersFound, .int y0_first, .int y0_second]))]) [0, 1, 2, 3, 4, 5] (by decide) rfl
                have hK9 := hK.sub (tys' := [(k_t_held, .object "PointRings$Curve"), (k_t_survey_roots_least, .int)]) [0, 1] rfl
                exact W.iret (v := (-2)) hx hb hr (fun t ht hW => ⟨⟨(-2), (u3, f4, u5), rfl, hv, by rw [ht]; exact hP9, va_K.moved hW.alike hK9, hD9⟩, hS.F ht⟩) hS.2.2 dX5_sign_63
              · replace h := (if_neg c13).symm.trans h
                refine lv_iload hx hb dX5_sign_55 (lv_at hl 8 rfl) ?_
                refine lv_iconst (v := 1) hx hb dX5_sign_57 (by decide) ?_
                refine lv_icmp_le (tgt := 64) hx hb dX5_sign_58 (by decide) (fun c14 => ?_) (fun c14 => ?_)
                · replace h := (if_pos c14).symm.trans h
                  refine lv_aload hx hb dX5_sign_64 (lv_at hl 1 rfl) ?_
                  refine lv_iload_n hx hb dX5_sign_66 rfl (lv_at hl 4 rfl) ?_
                  refine lv_iload hx hb dX5_sign_67 (lv_at hl 6 rfl) ?_
                  refine lv_i2l hx hb dX5_sign_69 rfl ?_
                  obtain ⟨r15, hr15, h⟩ := Option.bind_eq_some_iff.mp h
                  have hPc := hP.sub (ws' := [(y0, .inr (0, [.int y0_p, .int y0_a, .int y0_b, .int y0_from, .int y0_kernelPoint, .int y0_kernelOrder, .int u5, .int y0_inner, .int y0_outer, .int y0_makersFound, .int y0_first, .int y0_second]))]) [5] rfl
                  have hKc := hK.sub (tys' := []) [] rfl
                  refine vp_callSi (W.runV (As := [.int a1, .long a3.toInt64]) (rest := []) ⟨hx, hb, hml, hown, hts⟩ (ctX0_multiple l N dC dI  y0 y0_p y0_a y0_b y0_from y0_kernelPoint y0_kernelOrder u5 y0_inner y0_outer y0_makersFound y0_first y0_second a1 a3.toInt64 r15 hr15) (cwV 2 hts gX5_sign_X0_multiple rfl rfl rfl (by decide +kernel) ⟨Nat.le_of_ble_eq_true rfl, Nat.le_of_ble_eq_true rfl⟩) ⟨fun a U g mk q => by obtain ⟨q0, qP, qK, qN⟩ := q; exact ⟨q0, qP, va_K.moved (u := U) (U := U.calling g mk a) (Vm.Alike.refl U.vm) qK, nw_same (u := U) (U := U.calling g mk a) rfl qN⟩, va_recv hKc hPc (ci := 0) (q0 := 0) rfl rfl, fun U hU hW => ⟨rfl, by rw [hU]; exact hPc, va_K.moved hW.alike hKc, nw_warm hW hN⟩⟩ rfl rfl hl.1 rfl (lv_room (Nat.le_of_ble_eq_true rfl)) dX5_sign_70 ⟨Nat.le_of_ble_eq_true rfl, Nat.le_of_ble_eq_true rfl⟩) (fun q9 eq9 => ?_)
                  subst q9
                  refine lv_istore (lv' := [(9, .int r15), (8, .int r6), (7, .ref y0), (0, .ref h0), (1, .int a0), (2, .int a1), (3, .int a2), (4, .int a3), (5, .int a4), (6, .int a5)]) hx hb dX5_sign_73 hl (by decide) rfl (fun ls hl => ?_)
                  refine lv_iload hx hb dX5_sign_75 (lv_at hl 0 rfl) ?_
                  refine lv_iconst (v := (-1)) hx hb dX5_sign_77 (by decide) ?_
                  refine lv_icmp_ne (tgt := 85) hx hb dX5_sign_78 (by decide) (fun c16 => ?_) (fun c16 => ?_)
                  · replace h := (if_neg c16).symm.trans h
                    refine lv_iload hx hb dX5_sign_85 (lv_at hl 0 rfl) ?_
                    obtain ⟨r17, hr17, h⟩ := Option.bind_eq_some_iff.mp h
                    refine vp_callSi (W.runS (As := [.int r15]) (rest := []) ⟨hx, hb, hml, hown, hts⟩ (ctX5_xOf l N  r15 r17 hr17) (va_cwS 1 hts gX5_sign_X5_xOf rfl rfl rfl (by decide +kernel) ⟨Nat.le_of_ble_eq_true rfl, Nat.le_of_ble_eq_true rfl⟩) preEq rfl rfl hl.1 rfl (lv_room (Nat.le_of_ble_eq_true rfl)) dX5_sign_87 ⟨Nat.le_of_ble_eq_true rfl, Nat.le_of_ble_eq_true rfl⟩) (fun q9 eq9 => ?_)
                    subst q9
                    refine lv_iload hx hb dX5_sign_90 (lv_at hl 1 rfl) ?_
                    have hn18 : ¬ r6 = 0 := fun hz => absurd ((if_pos hz).symm.trans h) (fun hh => nomatch hh)
                    replace h := (if_neg hn18).symm.trans h
                    refine lv_irem hx hb dX5_sign_92 hn18 ?_
                    refine lv_topi (fun v19 ev19 => ?_)
                    replace h := mi_use ev19 h
                    refine lv_istore (lv' := [(10, .int v19), (9, .int r15), (8, .int r6), (7, .ref y0), (0, .ref h0), (1, .int a0), (2, .int a1), (3, .int a2), (4, .int a3), (5, .int a4), (6, .int a5)]) hx hb dX5_sign_93 hl (by decide) rfl (fun ls hl => ?_)
                    refine lv_iload hx hb dX5_sign_95 (lv_at hl 9 rfl) ?_
                    refine lv_iload hx hb dX5_sign_97 (lv_at hl 2 rfl) ?_
                    have hn20 : ¬ r6 = 0 := fun hz => absurd ((if_pos hz).symm.trans h) (fun hh => nomatch hh)
                    replace h := (if_neg hn20).symm.trans h
                    refine lv_irem hx hb dX5_sign_99 hn20 ?_
                    refine lv_topi (fun v21 ev21 => ?_)
                    replace h := mi_use ev21 h
                    refine lv_iload hx hb dX5_sign_100 (lv_at hl 0 rfl) ?_
                    refine lv_iload_n hx hb dX5_sign_102 rfl (lv_at hl 7 rfl) ?_
                    refine lv_imul hx hb dX5_sign_103 ?_
                    refine lv_iadd hx hb dX5_sign_104 ?_
                    refine lv_iload hx hb dX5_sign_105 (lv_at hl 2 rfl) ?_
                    have hn22 : ¬ r6 = 0 := fun hz => absurd ((if_pos hz).symm.trans h) (fun hh => nomatch hh)
                    replace h := (if_neg hn22).symm.trans h
                    refine lv_irem hx hb dX5_sign_107 hn22 ?_
                    refine lv_topi (fun v23 ev23 => ?_)
                    replace h := mi_use ev23 h
                    refine lv_iload hx hb dX5_sign_108 (lv_at hl 8 rfl) ?_
                    refine lv_iload hx hb dX5_sign_110 (lv_at hl 2 rfl) ?_
                    obtain ⟨r24, hr24, h⟩ := Option.bind_eq_some_iff.mp h
                    refine vp_callSi (W.runS (As := [.int a3, .int r6]) (rest := [.int v23]) ⟨hx, hb, hml, hown, hts⟩ (ctX4_inverted l N  a3 r6 r24 hr24) (va_cwS 2 hts gX5_sign_X4_inverted rfl rfl rfl (by decide +kernel) ⟨Nat.le_of_ble_eq_true rfl, Nat.le_of_ble_eq_true rfl⟩) preEq rfl rfl hl.1 rfl (lv_room (Nat.le_of_ble_eq_true rfl)) dX5_sign_112 ⟨Nat.le_of_ble_eq_true rfl, Nat.le_of_ble_eq_true rfl⟩) (fun q9 eq9 => ?_)
                    subst q9
                    refine lv_imul hx hb dX5_sign_115 ?_
                    refine lv_iload hx hb dX5_sign_116 (lv_at hl 2 rfl) ?_
                    have hn25 : ¬ r6 = 0 := fun hz => absurd ((if_pos hz).symm.trans h) (fun hh => nomatch hh)
                    replace h := (if_neg hn25).symm.trans h
                    refine lv_irem hx hb dX5_sign_118 hn25 ?_
                    refine lv_topi (fun v26 ev26 => ?_)
                    replace h := mi_use ev26 h
                    refine lv_istore (lv' := [(11, .int v26), (10, .int v19), (9, .int r15), (8, .int r6), (7, .ref y0), (0, .ref h0), (1, .int a0), (2, .int a1), (3, .int a2), (4, .int a3), (5, .int a4), (6, .int a5)]) hx hb dX5_sign_119 hl (by decide) rfl (fun ls hl => ?_)
                    refine lv_iload hx hb dX5_sign_121 (lv_at hl 1 rfl) ?_
                    refine lv_if_eq (tgt := 131) hx hb dX5_sign_123 (by decide) (fun c27 => ?_) (fun c27 => ?_)
                    · replace h := (if_pos c27).symm.trans h
                      refine lv_bipush (v := (-3)) hx hb dX5_sign_131 (by decide) ?_
                      have hv : ((-3), u3, f4, u5) = rr := Option.some.inj h
                      have hP9 := hP.sub (ws' := [(h0, .inr (4, [.ref h0_held, .int t_size, .ref h0_survey])), (h0_held, .inl (k_t_held, 24, .inr (.inr (.inr (.inr t_held))))), (h0_survey, .inr (3, [.ref h0_survey_roots, .ref h0_survey_strides, .ref h0_survey_halvesFound])), (h0_survey_roots, .inr (1, [.ref h0_survey_roots_least, .int u3])), (h0_survey_roots_least, .inl (k_t_survey_roots_least, 10007, .inl f4)), (y0, .inr (0, [.int y0_p, .int y0_a, .int y0_b, .int y0_from, .int y0_kernelPoint, .int y0_kernelOrder, .int u5, .int y0_inner, .int y0_outer, .int y0_makersFound, .int y0_first, .int y0_second]))]) [0, 1, 2, 3, 4, 5] rfl
                      have hD9 := hD.sub (ws' := [(h0, .inr (4, [.ref h0_held, .int t_size, .ref h0_survey])), (h0_held, .inl (k_t_held, 24, .inr (.inr (.inr (.inr t_held))))), (h0_survey, .inr (3, [.ref h0_survey_roots, .ref h0_survey_strides, .ref h0_survey_halvesFound])), (h0_survey_roots, .inr (1, [.ref h0_survey_roots_least, .int u3])), (h0_survey_roots_least, .inl (k_t_survey_roots_least, 10007, .inl f4)), (y0, .inr (0, [.int y0_p, .int y0_a, .int y0_b, .int y0_from, .int y0_kernelPoint, .int y0_kernelOrder, .int u5, .int y0_inner, .int y0_outer, .int y0_makersFound, .int y0_first, .int y0_second]))]) [0, 1, 2, 3, 4, 5] (by decide) rfl
                      have hK9 := hK.sub (tys' := [(k_t_held, .object "PointRings$Curve"), (k_t_survey_roots_least, .int)]) [0, 1] rfl
                      exact W.iret (v := (-3)) hx hb hr (fun t ht hW => ⟨⟨(-3), (u3, f4, u5), rfl, hv, by rw [ht]; exact hP9, va_K.moved hW.alike hK9, hD9⟩, hS.F ht⟩) hS.2.2 dX5_sign_133
                    · replace h := (if_neg c27).symm.trans h
                      refine lv_iload hx hb dX5_sign_126 (lv_at hl 0 rfl) ?_
                      refine lv_if_ne (tgt := 134) hx hb dX5_sign_128 (by decide) (fun c28 => ?_) (fun c28 => ?_)
                      · replace h := (if_neg c28).symm.trans h
                        refine lv_iload hx hb dX5_sign_134 (lv_at hl 11 rfl) ?_
                        refine lv_if_ne (tgt := 144) hx hb dX5_sign_136 (by decide) (fun c29 => ?_) (fun c29 => ?_)
                        · replace h := (if_neg c29).symm.trans h
                          refine lv_iload hx hb dX5_sign_144 (lv_at hl 0 rfl) ?_
                          have hv : (v26, u3, f4, u5) = rr := Option.some.inj h
                          have hP9 := hP.sub (ws' := [(h0, .inr (4, [.ref h0_held, .int t_size, .ref h0_survey])), (h0_held, .inl (k_t_held, 24, .inr (.inr (.inr (.inr t_held))))), (h0_survey, .inr (3, [.ref h0_survey_roots, .ref h0_survey_strides, .ref h0_survey_halvesFound])), (h0_survey_roots, .inr (1, [.ref h0_survey_roots_least, .int u3])), (h0_survey_roots_least, .inl (k_t_survey_roots_least, 10007, .inl f4)), (y0, .inr (0, [.int y0_p, .int y0_a, .int y0_b, .int y0_from, .int y0_kernelPoint, .int y0_kernelOrder, .int u5, .int y0_inner, .int y0_outer, .int y0_makersFound, .int y0_first, .int y0_second]))]) [0, 1, 2, 3, 4, 5] rfl
                          have hD9 := hD.sub (ws' := [(h0, .inr (4, [.ref h0_held, .int t_size, .ref h0_survey])), (h0_held, .inl (k_t_held, 24, .inr (.inr (.inr (.inr t_held))))), (h0_survey, .inr (3, [.ref h0_survey_roots, .ref h0_survey_strides, .ref h0_survey_halvesFound])), (h0_survey_roots, .inr (1, [.ref h0_survey_roots_least, .int u3])), (h0_survey_roots_least, .inl (k_t_survey_roots_least, 10007, .inl f4)), (y0, .inr (0, [.int y0_p, .int y0_a, .int y0_b, .int y0_from, .int y0_kernelPoint, .int y0_kernelOrder, .int u5, .int y0_inner, .int y0_outer, .int y0_makersFound, .int y0_first, .int y0_second]))]) [0, 1, 2, 3, 4, 5] (by decide) rfl
                          have hK9 := hK.sub (tys' := [(k_t_held, .object "PointRings$Curve"), (k_t_survey_roots_least, .int)]) [0, 1] rfl
                          exact W.iret (v := v26) hx hb hr (fun t ht hW => ⟨⟨v26, (u3, f4, u5), rfl, hv, by rw [ht]; exact hP9, va_K.moved hW.alike hK9, hD9⟩, hS.F ht⟩) hS.2.2 dX5_sign_146
                        · replace h := (if_pos c29).symm.trans h
                          refine lv_iload hx hb dX5_sign_139 (lv_at hl 1 rfl) ?_
                          refine lv_goto (tgt := 146) hx hb dX5_sign_141 (by decide) ?_
                          have hv : (v19, u3, f4, u5) = rr := Option.some.inj h
                          have hP9 := hP.sub (ws' := [(h0, .inr (4, [.ref h0_held, .int t_size, .ref h0_survey])), (h0_held, .inl (k_t_held, 24, .inr (.inr (.inr (.inr t_held))))), (h0_survey, .inr (3, [.ref h0_survey_roots, .ref h0_survey_strides, .ref h0_survey_halvesFound])), (h0_survey_roots, .inr (1, [.ref h0_survey_roots_least, .int u3])), (h0_survey_roots_least, .inl (k_t_survey_roots_least, 10007, .inl f4)), (y0, .inr (0, [.int y0_p, .int y0_a, .int y0_b, .int y0_from, .int y0_kernelPoint, .int y0_kernelOrder, .int u5, .int y0_inner, .int y0_outer, .int y0_makersFound, .int y0_first, .int y0_second]))]) [0, 1, 2, 3, 4, 5] rfl
                          have hD9 := hD.sub (ws' := [(h0, .inr (4, [.ref h0_held, .int t_size, .ref h0_survey])), (h0_held, .inl (k_t_held, 24, .inr (.inr (.inr (.inr t_held))))), (h0_survey, .inr (3, [.ref h0_survey_roots, .ref h0_survey_strides, .ref h0_survey_halvesFound])), (h0_survey_roots, .inr (1, [.ref h0_survey_roots_least, .int u3])), (h0_survey_roots_least, .inl (k_t_survey_roots_least, 10007, .inl f4)), (y0, .inr (0, [.int y0_p, .int y0_a, .int y0_b, .int y0_from, .int y0_kernelPoint, .int y0_kernelOrder, .int u5, .int y0_inner, .int y0_outer, .int y0_makersFound, .int y0_first, .int y0_second]))]) [0, 1, 2, 3, 4, 5] (by decide) rfl
                          have hK9 := hK.sub (tys' := [(k_t_held, .object "PointRings$Curve"), (k_t_survey_roots_least, .int)]) [0, 1] rfl
                          exact W.iret (v := v19) hx hb hr (fun t ht hW => ⟨⟨v19, (u3, f4, u5), rfl, hv, by rw [ht]; exact hP9, va_K.moved hW.alike hK9, hD9⟩, hS.F ht⟩) hS.2.2 dX5_sign_146
                      · replace h := (if_pos c28).symm.trans h
                        refine lv_bipush (v := (-3)) hx hb dX5_sign_131 (by decide) ?_
                        have hv : ((-3), u3, f4, u5) = rr := Option.some.inj h
                        have hP9 := hP.sub (ws' := [(h0, .inr (4, [.ref h0_held, .int t_size, .ref h0_survey])), (h0_held, .inl (k_t_held, 24, .inr (.inr (.inr (.inr t_held))))), (h0_survey, .inr (3, [.ref h0_survey_roots, .ref h0_survey_strides, .ref h0_survey_halvesFound])), (h0_survey_roots, .inr (1, [.ref h0_survey_roots_least, .int u3])), (h0_survey_roots_least, .inl (k_t_survey_roots_least, 10007, .inl f4)), (y0, .inr (0, [.int y0_p, .int y0_a, .int y0_b, .int y0_from, .int y0_kernelPoint, .int y0_kernelOrder, .int u5, .int y0_inner, .int y0_outer, .int y0_makersFound, .int y0_first, .int y0_second]))]) [0, 1, 2, 3, 4, 5] rfl
                        have hD9 := hD.sub (ws' := [(h0, .inr (4, [.ref h0_held, .int t_size, .ref h0_survey])), (h0_held, .inl (k_t_held, 24, .inr (.inr (.inr (.inr t_held))))), (h0_survey, .inr (3, [.ref h0_survey_roots, .ref h0_survey_strides, .ref h0_survey_halvesFound])), (h0_survey_roots, .inr (1, [.ref h0_survey_roots_least, .int u3])), (h0_survey_roots_least, .inl (k_t_survey_roots_least, 10007, .inl f4)), (y0, .inr (0, [.int y0_p, .int y0_a, .int y0_b, .int y0_from, .int y0_kernelPoint, .int y0_kernelOrder, .int u5, .int y0_inner, .int y0_outer, .int y0_makersFound, .int y0_first, .int y0_second]))]) [0, 1, 2, 3, 4, 5] (by decide) rfl
                        have hK9 := hK.sub (tys' := [(k_t_held, .object "PointRings$Curve"), (k_t_survey_roots_least, .int)]) [0, 1] rfl
                        exact W.iret (v := (-3)) hx hb hr (fun t ht hW => ⟨⟨(-3), (u3, f4, u5), rfl, hv, by rw [ht]; exact hP9, va_K.moved hW.alike hK9, hD9⟩, hS.F ht⟩) hS.2.2 dX5_sign_133
                  · replace h := (if_pos c16).symm.trans h
                    refine lv_iconst (v := 0) hx hb dX5_sign_81 (by decide) ?_
                    refine lv_goto (tgt := 93) hx hb dX5_sign_82 (by decide) ?_
                    refine lv_istore (lv' := [(10, .int 0), (9, .int r15), (8, .int r6), (7, .ref y0), (0, .ref h0), (1, .int a0), (2, .int a1), (3, .int a2), (4, .int a3), (5, .int a4), (6, .int a5)]) hx hb dX5_sign_93 hl (by decide) rfl (fun ls hl => ?_)
                    refine lv_iload hx hb dX5_sign_95 (lv_at hl 9 rfl) ?_
                    refine lv_iload hx hb dX5_sign_97 (lv_at hl 2 rfl) ?_
                    have hn30 : ¬ r6 = 0 := fun hz => absurd ((if_pos hz).symm.trans h) (fun hh => nomatch hh)
                    replace h := (if_neg hn30).symm.trans h
                    refine lv_irem hx hb dX5_sign_99 hn30 ?_
                    refine lv_topi (fun v31 ev31 => ?_)
                    replace h := mi_use ev31 h
                    refine lv_iload hx hb dX5_sign_100 (lv_at hl 0 rfl) ?_
                    refine lv_iload_n hx hb dX5_sign_102 rfl (lv_at hl 7 rfl) ?_
                    refine lv_imul hx hb dX5_sign_103 ?_
                    refine lv_iadd hx hb dX5_sign_104 ?_
                    refine lv_iload hx hb dX5_sign_105 (lv_at hl 2 rfl) ?_
                    have hn32 : ¬ r6 = 0 := fun hz => absurd ((if_pos hz).symm.trans h) (fun hh => nomatch hh)
                    replace h := (if_neg hn32).symm.trans h
                    refine lv_irem hx hb dX5_sign_107 hn32 ?_
                    refine lv_topi (fun v33 ev33 => ?_)
                    replace h := mi_use ev33 h
                    refine lv_iload hx hb dX5_sign_108 (lv_at hl 8 rfl) ?_
                    refine lv_iload hx hb dX5_sign_110 (lv_at hl 2 rfl) ?_
                    obtain ⟨r34, hr34, h⟩ := Option.bind_eq_some_iff.mp h
                    refine vp_callSi (W.runS (As := [.int a3, .int r6]) (rest := [.int v33]) ⟨hx, hb, hml, hown, hts⟩ (ctX4_inverted l N  a3 r6 r34 hr34) (va_cwS 2 hts gX5_sign_X4_inverted rfl rfl rfl (by decide +kernel) ⟨Nat.le_of_ble_eq_true rfl, Nat.le_of_ble_eq_true rfl⟩) preEq rfl rfl hl.1 rfl (lv_room (Nat.le_of_ble_eq_true rfl)) dX5_sign_112 ⟨Nat.le_of_ble_eq_true rfl, Nat.le_of_ble_eq_true rfl⟩) (fun q9 eq9 => ?_)
                    subst q9
                    refine lv_imul hx hb dX5_sign_115 ?_
                    refine lv_iload hx hb dX5_sign_116 (lv_at hl 2 rfl) ?_
                    have hn35 : ¬ r6 = 0 := fun hz => absurd ((if_pos hz).symm.trans h) (fun hh => nomatch hh)
                    replace h := (if_neg hn35).symm.trans h
                    refine lv_irem hx hb dX5_sign_118 hn35 ?_
                    refine lv_topi (fun v36 ev36 => ?_)
                    replace h := mi_use ev36 h
                    refine lv_istore (lv' := [(11, .int v36), (10, .int 0), (9, .int r15), (8, .int r6), (7, .ref y0), (0, .ref h0), (1, .int a0), (2, .int a1), (3, .int a2), (4, .int a3), (5, .int a4), (6, .int a5)]) hx hb dX5_sign_119 hl (by decide) rfl (fun ls hl => ?_)
                    refine lv_iload hx hb dX5_sign_121 (lv_at hl 1 rfl) ?_
                    refine lv_if_eq (tgt := 131) hx hb dX5_sign_123 (by decide) (fun c37 => ?_) (fun c37 => ?_)
                    · refine lv_bipush (v := (-3)) hx hb dX5_sign_131 (by decide) ?_
                      have hv : ((-3), u3, f4, u5) = rr := Option.some.inj h
                      have hP9 := hP.sub (ws' := [(h0, .inr (4, [.ref h0_held, .int t_size, .ref h0_survey])), (h0_held, .inl (k_t_held, 24, .inr (.inr (.inr (.inr t_held))))), (h0_survey, .inr (3, [.ref h0_survey_roots, .ref h0_survey_strides, .ref h0_survey_halvesFound])), (h0_survey_roots, .inr (1, [.ref h0_survey_roots_least, .int u3])), (h0_survey_roots_least, .inl (k_t_survey_roots_least, 10007, .inl f4)), (y0, .inr (0, [.int y0_p, .int y0_a, .int y0_b, .int y0_from, .int y0_kernelPoint, .int y0_kernelOrder, .int u5, .int y0_inner, .int y0_outer, .int y0_makersFound, .int y0_first, .int y0_second]))]) [0, 1, 2, 3, 4, 5] rfl
                      have hD9 := hD.sub (ws' := [(h0, .inr (4, [.ref h0_held, .int t_size, .ref h0_survey])), (h0_held, .inl (k_t_held, 24, .inr (.inr (.inr (.inr t_held))))), (h0_survey, .inr (3, [.ref h0_survey_roots, .ref h0_survey_strides, .ref h0_survey_halvesFound])), (h0_survey_roots, .inr (1, [.ref h0_survey_roots_least, .int u3])), (h0_survey_roots_least, .inl (k_t_survey_roots_least, 10007, .inl f4)), (y0, .inr (0, [.int y0_p, .int y0_a, .int y0_b, .int y0_from, .int y0_kernelPoint, .int y0_kernelOrder, .int u5, .int y0_inner, .int y0_outer, .int y0_makersFound, .int y0_first, .int y0_second]))]) [0, 1, 2, 3, 4, 5] (by decide) rfl
                      have hK9 := hK.sub (tys' := [(k_t_held, .object "PointRings$Curve"), (k_t_survey_roots_least, .int)]) [0, 1] rfl
                      exact W.iret (v := (-3)) hx hb hr (fun t ht hW => ⟨⟨(-3), (u3, f4, u5), rfl, hv, by rw [ht]; exact hP9, va_K.moved hW.alike hK9, hD9⟩, hS.F ht⟩) hS.2.2 dX5_sign_133
                    · exact absurd (by decide) c37
                · replace h := (if_neg c14).symm.trans h
                  refine lv_bipush (v := (-2)) hx hb dX5_sign_61 (by decide) ?_
                  have hv : ((-2), u3, f4, u5) = rr := Option.some.inj h
                  have hP9 := hP.sub (ws' := [(h0, .inr (4, [.ref h0_held, .int t_size, .ref h0_survey])), (h0_held, .inl (k_t_held, 24, .inr (.inr (.inr (.inr t_held))))), (h0_survey, .inr (3, [.ref h0_survey_roots, .ref h0_survey_strides, .ref h0_survey_halvesFound])), (h0_survey_roots, .inr (1, [.ref h0_survey_roots_least, .int u3])), (h0_survey_roots_least, .inl (k_t_survey_roots_least, 10007, .inl f4)), (y0, .inr (0, [.int y0_p, .int y0_a, .int y0_b, .int y0_from, .int y0_kernelPoint, .int y0_kernelOrder, .int u5, .int y0_inner, .int y0_outer, .int y0_makersFound, .int y0_first, .int y0_second]))]) [0, 1, 2, 3, 4, 5] rfl
                  have hD9 := hD.sub (ws' := [(h0, .inr (4, [.ref h0_held, .int t_size, .ref h0_survey])), (h0_held, .inl (k_t_held, 24, .inr (.inr (.inr (.inr t_held))))), (h0_survey, .inr (3, [.ref h0_survey_roots, .ref h0_survey_strides, .ref h0_survey_halvesFound])), (h0_survey_roots, .inr (1, [.ref h0_survey_roots_least, .int u3])), (h0_survey_roots_least, .inl (k_t_survey_roots_least, 10007, .inl f4)), (y0, .inr (0, [.int y0_p, .int y0_a, .int y0_b, .int y0_from, .int y0_kernelPoint, .int y0_kernelOrder, .int u5, .int y0_inner, .int y0_outer, .int y0_makersFound, .int y0_first, .int y0_second]))]) [0, 1, 2, 3, 4, 5] (by decide) rfl
                  have hK9 := hK.sub (tys' := [(k_t_held, .object "PointRings$Curve"), (k_t_survey_roots_least, .int)]) [0, 1] rfl
                  exact W.iret (v := (-2)) hx hb hr (fun t ht hW => ⟨⟨(-2), (u3, f4, u5), rfl, hv, by rw [ht]; exact hP9, va_K.moved hW.alike hK9, hD9⟩, hS.F ht⟩) hS.2.2 dX5_sign_63
def mX5_good_s (N : Nat) (t_survey_roots_prime : Int32) (t_survey_roots_least : Nat → Int32) (y0_p : Int32) (y0_a : Int32) (y0_b : Int32) (y0_points : Int32) (a0 : Int32) (a1 : Int32) (a2 : Int32) (a3 : Int32) (a4 : Int32) (a5 : Int32) : Option (Int32 × Int32 × (Nat → Int32) × Int32) := (mX5_primeOrder_s N t_survey_roots_prime t_survey_roots_least y0_p y0_a y0_b y0_points a1).bind (fun r2 => match r2 with | (r6, u3, f4, u5) => if r6 = 0 then some ((-2), u3, f4, u5) else (mX0_holds N y0_p y0_a y0_b a2).bind (fun r8 => if r8 = 0 then some ((-2), u3, f4, u5) else if 0 ≤ a3 then if a4 < 1 then some (0, u3, f4, u5) else if r6 ≤ a4 then some (0, u3, f4, u5) else if a5 < 1 then some (0, u3, f4, u5) else if a5 < r6 then (mX4_inverted N a5 r6).bind (fun r15 => if r6 = 0 then none else mi_let (mi_rem a3 r6) (fun v17 => if r6 = 0 then none else mi_let (mi_rem (v17 * r15) r6) (fun v19 => (mX0_multiple N y0_p y0_a a1 v19.toInt64).bind (fun r20 => if r6 = 0 then none else mi_let (mi_rem (a4 * r15) r6) (fun v22 => (mX0_multiple N y0_p y0_a a2 v22.toInt64).bind (fun r23 => (mX0_sum N y0_p y0_a r20 r23).bind (fun r24 => if r24 = (-1) then some (0, u3, f4, u5) else (mX5_xOf N r24).bind (fun r26 => if r6 = 0 then none else mi_let (mi_rem r26 r6) (fun v28 => if v28 = a4 then some (1, u3, f4, u5) else some (0, u3, f4, u5)))))))))) else some (0, u3, f4, u5) else some ((-2), u3, f4, u5)))
abbrev rmX5_good_s : Room := { frames := 6, cells := 0, slots := 0, locals := 137 }
set_option maxHeartbeats 4000000 in
set_option maxRecDepth 100000 in
theorem ctX5_good_s (l : Launch) (N : Nat) (dC : Nat → ClassId) (dI : Nat → Nat → Nat) (sz : Nat) (h0 : Nat) (h0_held : Nat) (h0_survey : Nat) (h0_survey_roots : Nat) (h0_survey_roots_least : Nat) (y0 : Nat) (h0_survey_strides : Nat) (h0_survey_halvesFound : Nat) (k_t_held : ClassId) (k_t_survey_roots_least : ClassId) (t_size : Int32) (t_held : Nat → Option Nat) (t_survey_roots_prime : Int32) (t_survey_roots_least : Nat → Int32) (y0_p : Int32) (y0_a : Int32) (y0_b : Int32) (y0_from : Int32) (y0_kernelPoint : Int32) (y0_kernelOrder : Int32) (y0_points : Int32) (y0_inner : Int32) (y0_outer : Int32) (y0_makersFound : Int32) (y0_first : Int32) (y0_second : Int32) (a0 : Int32) (a1 : Int32) (a2 : Int32) (a3 : Int32) (a4 : Int32) (a5 : Int32) (rr : Int32 × Int32 × (Nat → Int32) × Int32) (h : mX5_good_s N t_survey_roots_prime t_survey_roots_least y0_p y0_a y0_b y0_points a0 a1 a2 a3 a4 a5 = some rr) (hk0 : mX5_at N t_size t_held a0 = some (some y0)) : Met l yX5_good wsX5_good rmX5_good_s (va_Pc [.ref h0, .int a0, .int a1, .int a2, .int a3, .int a4, .int a5] (fun U => U.heap.size = sz ∧ va_P (dC, dI) vwCl [(h0, .inr (4, [.ref h0_held, .int t_size, .ref h0_survey])), (h0_held, .inl (k_t_held, 24, .inr (.inr (.inr (.inr t_held))))), (h0_survey, .inr (3, [.ref h0_survey_roots, .ref h0_survey_strides, .ref h0_survey_halvesFound])), (h0_survey_roots, .inr (1, [.ref h0_survey_roots_least, .int t_survey_roots_prime])), (h0_survey_roots_least, .inl (k_t_survey_roots_least, 10007, .inl t_survey_roots_least)), (y0, .inr (0, [.int y0_p, .int y0_a, .int y0_b, .int y0_from, .int y0_kernelPoint, .int y0_kernelOrder, .int y0_points, .int y0_inner, .int y0_outer, .int y0_makersFound, .int y0_first, .int y0_second]))] U.heap ∧ va_K (dC, dI) vwCl [(k_t_held, .object "PointRings$Curve"), (k_t_survey_roots_least, .int)] U ∧ nw_all U ∧ va_D (fun _ => True) [(h0, .inr (4, [.ref h0_held, .int t_size, .ref h0_survey])), (h0_held, .inl (k_t_held, 24, .inr (.inr (.inr (.inr t_held))))), (h0_survey, .inr (3, [.ref h0_survey_roots, .ref h0_survey_strides, .ref h0_survey_halvesFound])), (h0_survey_roots, .inr (1, [.ref h0_survey_roots_least, .int t_survey_roots_prime])), (h0_survey_roots_least, .inl (k_t_survey_roots_least, 10007, .inl t_survey_roots_least)), (y0, .inr (0, [.int y0_p, .int y0_a, .int y0_b, .int y0_from, .int y0_kernelPoint, .int y0_kernelOrder, .int y0_points, .int y0_inner, .int y0_outer, .int y0_makersFound, .int y0_first, .int y0_second]))])) (va_Qi (fun (r : Int32) (u : Int32 × (Nat → Int32) × Int32) => (r, u) = rr) (fun (u : Int32 × (Nat → Int32) × Int32) t => match u with | (u0, u1, u2) => va_P (dC, dI) vwCl [(h0, .inr (4, [.ref h0_held, .int t_size, .ref h0_survey])), (h0_held, .inl (k_t_held, 24, .inr (.inr (.inr (.inr t_held))))), (h0_survey, .inr (3, [.ref h0_survey_roots, .ref h0_survey_strides, .ref h0_survey_halvesFound])), (h0_survey_roots, .inr (1, [.ref h0_survey_roots_least, .int u0])), (h0_survey_roots_least, .inl (k_t_survey_roots_least, 10007, .inl u1)), (y0, .inr (0, [.int y0_p, .int y0_a, .int y0_b, .int y0_from, .int y0_kernelPoint, .int y0_kernelOrder, .int u2, .int y0_inner, .int y0_outer, .int y0_makersFound, .int y0_first, .int y0_second]))] t.heap ∧ va_K (dC, dI) vwCl [(k_t_held, .object "PointRings$Curve"), (k_t_survey_roots_least, .int)] t ∧ va_D (va_A [(h0, .inr (4, [.ref h0_held, .int t_size, .ref h0_survey])), (h0_held, .inl (k_t_held, 24, .inr (.inr (.inr (.inr t_held))))), (h0_survey, .inr (3, [.ref h0_survey_roots, .ref h0_survey_strides, .ref h0_survey_halvesFound])), (h0_survey_roots, .inr (1, [.ref h0_survey_roots_least, .int t_survey_roots_prime])), (h0_survey_roots_least, .inl (k_t_survey_roots_least, 10007, .inl t_survey_roots_least)), (y0, .inr (0, [.int y0_p, .int y0_a, .int y0_b, .int y0_from, .int y0_kernelPoint, .int y0_kernelOrder, .int y0_points, .int y0_inner, .int y0_outer, .int y0_makersFound, .int y0_first, .int y0_second]))] sz) [(h0, .inr (4, [.ref h0_held, .int t_size, .ref h0_survey])), (h0_held, .inl (k_t_held, 24, .inr (.inr (.inr (.inr t_held))))), (h0_survey, .inr (3, [.ref h0_survey_roots, .ref h0_survey_strides, .ref h0_survey_halvesFound])), (h0_survey_roots, .inr (1, [.ref h0_survey_roots_least, .int u0])), (h0_survey_roots_least, .inl (k_t_survey_roots_least, 10007, .inl u1)), (y0, .inr (0, [.int y0_p, .int y0_a, .int y0_b, .int y0_from, .int y0_kernelPoint, .int y0_kernelOrder, .int u2, .int y0_inner, .int y0_outer, .int y0_makersFound, .int y0_first, .int y0_second]))]) (va_A [(h0, .inr (4, [.ref h0_held, .int t_size, .ref h0_survey])), (h0_held, .inl (k_t_held, 24, .inr (.inr (.inr (.inr t_held))))), (h0_survey, .inr (3, [.ref h0_survey_roots, .ref h0_survey_strides, .ref h0_survey_halvesFound])), (h0_survey_roots, .inr (1, [.ref h0_survey_roots_least, .int t_survey_roots_prime])), (h0_survey_roots_least, .inl (k_t_survey_roots_least, 10007, .inl t_survey_roots_least)), (y0, .inr (0, [.int y0_p, .int y0_a, .int y0_b, .int y0_from, .int y0_kernelPoint, .int y0_kernelOrder, .int y0_points, .int y0_inner, .int y0_outer, .int y0_makersFound, .int y0_first, .int y0_second]))] sz)) 0 0 (va_A [(h0, .inr (4, [.ref h0_held, .int t_size, .ref h0_survey])), (h0_held, .inl (k_t_held, 24, .inr (.inr (.inr (.inr t_held))))), (h0_survey, .inr (3, [.ref h0_survey_roots, .ref h0_survey_strides, .ref h0_survey_halvesFound])), (h0_survey_roots, .inr (1, [.ref h0_survey_roots_least, .int t_survey_roots_prime])), (h0_survey_roots_least, .inl (k_t_survey_roots_least, 10007, .inl t_survey_roots_least)), (y0, .inr (0, [.int y0_p, .int y0_a, .int y0_b, .int y0_from, .int y0_kernelPoint, .int y0_kernelOrder, .int y0_points, .int y0_inner, .int y0_outer, .int y0_makersFound, .int y0_first, .int y0_second]))] sz) := by
  refine Met.ofW (cc := cX5_good) (maxL := 11) (ret := (some .int)) (by decide) rfl ?_
  intro p e s m args below meth c s₁ B hml hv
  obtain ⟨rfl, hsz, hP, hK, hN, hD0⟩ := hv
  have hx := B.exec
  have hb := B.bytes
  have hr := B.returns
  have hts := atoms_spec (ws := wsX5_good) B.pre
  have hown : s.vm.findClass RX5 = some m.cls := findClass_of_methodNamed B.named
  have hlocks := B.notSynchronized
  subst hsz
  have hD := hD0.self (sz := s.heap.size)
  generalize hAe : va_A [(h0, .inr (4, [.ref h0_held, .int t_size, .ref h0_survey])), (h0_held, .inl (k_t_held, 24, .inr (.inr (.inr (.inr t_held))))), (h0_survey, .inr (3, [.ref h0_survey_roots, .ref h0_survey_strides, .ref h0_survey_halvesFound])), (h0_survey_roots, .inr (1, [.ref h0_survey_roots_least, .int t_survey_roots_prime])), (h0_survey_roots_least, .inl (k_t_survey_roots_least, 10007, .inl t_survey_roots_least)), (y0, .inr (0, [.int y0_p, .int y0_a, .int y0_b, .int y0_from, .int y0_kernelPoint, .int y0_kernelOrder, .int y0_points, .int y0_inner, .int y0_outer, .int y0_makersFound, .int y0_first, .int y0_second]))] s.heap.size = A at hD ⊢
  have hA0 : ∀ q : Nat, s.heap.size ≤ q → A q := fun q h => by rw [← hAe]; exact Or.inr h
  have hS : va_S A s.heap s.heap [] := va_S.rf
  have hP : va_P (dC, dI) vwCl [(h0, .inr (4, [.ref h0_held, .int t_size, .ref h0_survey])), (h0_held, .inl (k_t_held, 24, .inr (.inr (.inr (.inr t_held))))), (h0_survey, .inr (3, [.ref h0_survey_roots, .ref h0_survey_strides, .ref h0_survey_halvesFound])), (h0_survey_roots, .inr (1, [.ref h0_survey_roots_least, .int t_survey_roots_prime])), (h0_survey_roots_least, .inl (k_t_survey_roots_least, 10007, .inl t_survey_roots_least)), (y0, .inr (0, [.int y0_p, .int y0_a, .int y0_b, .int y0_from, .int y0_kernelPoint, .int y0_kernelOrder, .int y0_points, .int y0_inner, .int y0_outer, .int y0_makersFound, .int y0_first, .int y0_second]))] s.heap := hP
  have hl := lv_entry ([.ref h0, .int a0, .int a1, .int a2, .int a3, .int a4, .int a5]) (n := 11) (Nat.le_of_ble_eq_true rfl)
  rw [lg_entry_eq]
  generalize (lg_sl ([.ref h0, .int a0, .int a1, .int a2, .int a3, .int a4, .int a5]) ++ List.replicate (11 - (lg_sl ([.ref h0, .int a0, .int a1, .int a2, .int a3, .int a4, .int a5])).length) Slot.unset).toArray = ls at hl ⊢
  have hl : lv_has ls 11 [(0, .ref h0), (1, .int a0), (2, .int a1), (3, .int a2), (4, .int a3), (5, .int a4), (6, .int a5)] := hl
  dsimp only [mX5_good_s] at h
  refine lv_aload_n hx hb dX5_good_0 rfl (lv_at hl 0 rfl) ?_
  refine lv_iload_n hx hb dX5_good_1 rfl (lv_at hl 1 rfl) ?_
  have hPc := hP.sub (ws' := [(h0, .inr (4, [.ref h0_held, .int t_size, .ref h0_survey])), (h0_held, .inl (k_t_held, 24, .inr (.inr (.inr (.inr t_held)))))]) [0, 1] rfl
  have hKc := hK.sub (tys' := [(k_t_held, .object "PointRings$Curve")]) [0] rfl
  refine va_csq (W.runV (As := [.int a0]) (rest := []) ⟨hx, hb, hml, hown, hts⟩ (ctX5_at l N dC dI  h0 h0_held h0_survey k_t_held t_size t_held a0 (some y0) hk0) (cwV 1 hts gX5_good_X5_at rfl rfl rfl (by decide +kernel) ⟨Nat.le_of_ble_eq_true rfl, Nat.le_of_ble_eq_true rfl⟩) ⟨fun a U g mk q => by obtain ⟨q0, qP, qK, qN⟩ := q; exact ⟨q0, qP, va_K.moved (u := U) (U := U.calling g mk a) (Vm.Alike.refl U.vm) qK, nw_same (u := U) (U := U.calling g mk a) rfl qN⟩, va_recv hKc hPc (ci := 4) (q0 := 0) rfl rfl, fun U hU hW => ⟨rfl, by rw [hU]; exact hPc, va_K.moved hW.alike hKc, nw_warm hW hN⟩⟩ rfl rfl hl.1 rfl (lv_room (Nat.le_of_ble_eq_true rfl)) dX5_good_2 ⟨Nat.le_of_ble_eq_true rfl, Nat.le_of_ble_eq_true rfl⟩) (fun q9 eq9 => ?_)
  subst q9
  refine lv_astore (lv' := [(7, .ref y0), (0, .ref h0), (1, .int a0), (2, .int a1), (3, .int a2), (4, .int a3), (5, .int a4), (6, .int a5)]) hx hb dX5_good_5 hl (by decide) rfl (fun ls hl => ?_)
  refine lv_aload_n hx hb dX5_good_7 rfl (lv_at hl 1 rfl) ?_
  refine lv_aload hx hb dX5_good_8 (lv_at hl 0 rfl) ?_
  refine lv_iload_n hx hb dX5_good_10 rfl (lv_at hl 3 rfl) ?_
  obtain ⟨r2, hr2, h⟩ := Option.bind_eq_some_iff.mp h
  have hPc := hP.sub (ws' := [(h0, .inr (4, [.ref h0_held, .int t_size, .ref h0_survey])), (h0_survey, .inr (3, [.ref h0_survey_roots, .ref h0_survey_strides, .ref h0_survey_halvesFound])), (h0_survey_roots, .inr (1, [.ref h0_survey_roots_least, .int t_survey_roots_prime])), (h0_survey_roots_least, .inl (k_t_survey_roots_least, 10007, .inl t_survey_roots_least)), (y0, .inr (0, [.int y0_p, .int y0_a, .int y0_b, .int y0_from, .int y0_kernelPoint, .int y0_kernelOrder, .int y0_points, .int y0_inner, .int y0_outer, .int y0_makersFound, .int y0_first, .int y0_second]))]) [0, 2, 3, 4, 5] rfl
  have hDc := hD.sub (ws' := [(h0, .inr (4, [.ref h0_held, .int t_size, .ref h0_survey])), (h0_survey, .inr (3, [.ref h0_survey_roots, .ref h0_survey_strides, .ref h0_survey_halvesFound])), (h0_survey_roots, .inr (1, [.ref h0_survey_roots_least, .int t_survey_roots_prime])), (h0_survey_roots_least, .inl (k_t_survey_roots_least, 10007, .inl t_survey_roots_least)), (y0, .inr (0, [.int y0_p, .int y0_a, .int y0_b, .int y0_from, .int y0_kernelPoint, .int y0_kernelOrder, .int y0_points, .int y0_inner, .int y0_outer, .int y0_makersFound, .int y0_first, .int y0_second]))]) [0, 2, 3, 4, 5] (by decide) rfl
  have hKc := hK.sub (tys' := [(k_t_survey_roots_least, .int)]) [1] rfl
  have hFc := va_free (wc := [(h0, .inr (4, [.ref h0_held, .int t_size, .ref h0_survey])), (h0_survey, .inr (3, [.ref h0_survey_roots, .ref h0_survey_strides, .ref h0_survey_halvesFound])), (h0_survey_roots, .inr (1, [.ref h0_survey_roots_least, .int t_survey_roots_prime])), (h0_survey_roots_least, .inl (k_t_survey_roots_least, 10007, .inl t_survey_roots_least)), (y0, .inr (0, [.int y0_p, .int y0_a, .int y0_b, .int y0_from, .int y0_kernelPoint, .int y0_kernelOrder, .int y0_points, .int y0_inner, .int y0_outer, .int y0_makersFound, .int y0_first, .int y0_second]))]) hD hS hA0 [0, 2, 3, 4, 5] rfl
  refine va_calli (va_runV (As := [.ref y0, .int a1]) (rest := []) ⟨hx, hb, hml, hown, hts⟩ (ctX5_primeOrder_s l N dC dI _ h0 h0_survey h0_survey_roots h0_survey_roots_least y0 h0_held h0_survey_strides h0_survey_halvesFound k_t_survey_roots_least t_size t_survey_roots_prime t_survey_roots_least y0_p y0_a y0_b y0_from y0_kernelPoint y0_kernelOrder y0_points y0_inner y0_outer y0_makersFound y0_first y0_second a1 r2 hr2) (cwV 2 hts gX5_good_X5_primeOrder rfl rfl rfl (by decide +kernel) ⟨Nat.le_of_ble_eq_true rfl, Nat.le_of_ble_eq_true rfl⟩) ⟨fun a U g mk q => by obtain ⟨q0, q1, qP, qK, qN, qD⟩ := q; exact ⟨q0, q1, qP, va_K.moved (u := U) (U := U.calling g mk a) (Vm.Alike.refl U.vm) qK, nw_same (u := U) (U := U.calling g mk a) rfl qN, qD⟩, va_recv hKc hPc (ci := 4) (q0 := 0) rfl rfl, fun U hU hW => ⟨rfl, by rw [hU], by rw [hU]; exact hPc, va_K.moved hW.alike hKc, nw_warm hW hN, hDc.weaken (fun _ _ _ _ => trivial)⟩⟩ rfl rfl hl.1 rfl (lv_room (Nat.le_of_ble_eq_true rfl)) dX5_good_11 ⟨Nat.le_of_ble_eq_true rfl, Nat.le_of_ble_eq_true rfl⟩) hS (fun q _ h => hFc q h) hFc (fun rz u t H1 locs ht hvm hw hB1 hz1 hk1 hS => ?_)
  obtain ⟨u3, f4, u5⟩ := u
  obtain ⟨hP1, hK1, hD1⟩ := hB1
  rw [ht] at hP1
  have hK1 := va_K.moved hvm.symm hK1
  obtain ⟨r6, rfl⟩ : ∃ z, z = rz := ⟨_, rfl⟩
  subst hw
  try dsimp only at h
  obtain ⟨hP, hD⟩ := va_join (wr := [(h0_held, .inl (k_t_held, 24, .inr (.inr (.inr (.inr t_held)))))]) (w1 := [(h0, .inr (4, [.ref h0_held, .int t_size, .ref h0_survey])), (h0_survey, .inr (3, [.ref h0_survey_roots, .ref h0_survey_strides, .ref h0_survey_halvesFound])), (h0_survey_roots, .inr (1, [.ref h0_survey_roots_least, .int u3])), (h0_survey_roots_least, .inl (k_t_survey_roots_least, 10007, .inl f4)), (y0, .inr (0, [.int y0_p, .int y0_a, .int y0_b, .int y0_from, .int y0_kernelPoint, .int y0_kernelOrder, .int u5, .int y0_inner, .int y0_outer, .int y0_makersFound, .int y0_first, .int y0_second]))]) hP hD [0, 2, 3, 4, 5] [1] rfl rfl (by decide) (by decide) hk1 hFc hP1 hD1
  generalize H1 = H at hP hS ⊢
  have hP := hP.sub (ws' := [(h0, .inr (4, [.ref h0_held, .int t_size, .ref h0_survey])), (h0_held, .inl (k_t_held, 24, .inr (.inr (.inr (.inr t_held))))), (h0_survey, .inr (3, [.ref h0_survey_roots, .ref h0_survey_strides, .ref h0_survey_halvesFound])), (h0_survey_roots, .inr (1, [.ref h0_survey_roots_least, .int u3])), (h0_survey_roots_least, .inl (k_t_survey_roots_least, 10007, .inl f4)), (y0, .inr (0, [.int y0_p, .int y0_a, .int y0_b, .int y0_from, .int y0_kernelPoint, .int y0_kernelOrder, .int u5, .int y0_inner, .int y0_outer, .int y0_makersFound, .int y0_first, .int y0_second]))]) [1, 0, 2, 3, 4, 5] rfl
  have hD := hD.sub (ws' := [(h0, .inr (4, [.ref h0_held, .int t_size, .ref h0_survey])), (h0_held, .inl (k_t_held, 24, .inr (.inr (.inr (.inr t_held))))), (h0_survey, .inr (3, [.ref h0_survey_roots, .ref h0_survey_strides, .ref h0_survey_halvesFound])), (h0_survey_roots, .inr (1, [.ref h0_survey_roots_least, .int u3])), (h0_survey_roots_least, .inl (k_t_survey_roots_least, 10007, .inl f4)), (y0, .inr (0, [.int y0_p, .int y0_a, .int y0_b, .int y0_from, .int y0_kernelPoint, .int y0_kernelOrder, .int u5, .int y0_inner, .int y0_outer, .int y0_makersFound, .int y0_first, .int y0_second]))]) [1, 0, 2, 3, 4, 5] (by decide) rfl
  refine lv_istore (lv' := [(8, .int r6), (7, .ref y0), (0, .ref h0), (1, .int a0), (2, .int a1), (3, .int a2), (4, .int a3), (5, .int a4), (6, .int a5)]) hx hb dX5_good_14 hl (by decide) rfl (fun ls hl => ?_)
  refine lv_iload hx hb dX5_good_16 (lv_at hl 0 rfl) ?_
  refine lv_if_eq (tgt := 35) hx hb dX5_good_18 (by decide) (fun c7 => ?_) (fun c7 => ?_)
  · replace h := (if_pos c7).symm.trans h
    refine lv_bipush (v := (-2)) hx hb dX5_good_35 (by decide) ?_
    have hv : ((-2), u3, f4, u5) = rr := Option.some.inj h
    have hP9 := hP.sub (ws' := [(h0, .inr (4, [.ref h0_held, .int t_size, .ref h0_survey])), (h0_held, .inl (k_t_held, 24, .inr (.inr (.inr (.inr t_held))))), (h0_survey, .inr (3, [.ref h0_survey_roots, .ref h0_survey_strides, .ref h0_survey_halvesFound])), (h0_survey_roots, .inr (1, [.ref h0_survey_roots_least, .int u3])), (h0_survey_roots_least, .inl (k_t_survey_roots_least, 10007, .inl f4)), (y0, .inr (0, [.int y0_p, .int y0_a, .int y0_b, .int y0_from, .int y0_kernelPoint, .int y0_kernelOrder, .int u5, .int y0_inner, .int y0_outer, .int y0_makersFound, .int y0_first, .int y0_second]))]) [0, 1, 2, 3, 4, 5] rfl
    have hD9 := hD.sub (ws' := [(h0, .inr (4, [.ref h0_held, .int t_size, .ref h0_survey])), (h0_held, .inl (k_t_held, 24, .inr (.inr (.inr (.inr t_held))))), (h0_survey, .inr (3, [.ref h0_survey_roots, .ref h0_survey_strides, .ref h0_survey_halvesFound])), (h0_survey_roots, .inr (1, [.ref h0_survey_roots_least, .int u3])), (h0_survey_roots_least, .inl (k_t_survey_roots_least, 10007, .inl f4)), (y0, .inr (0, [.int y0_p, .int y0_a, .int y0_b, .int y0_from, .int y0_kernelPoint, .int y0_kernelOrder, .int u5, .int y0_inner, .int y0_outer, .int y0_makersFound, .int y0_first, .int y0_second]))]) [0, 1, 2, 3, 4, 5] (by decide) rfl
    have hK9 := hK.sub (tys' := [(k_t_held, .object "PointRings$Curve"), (k_t_survey_roots_least, .int)]) [0, 1] rfl
    exact W.iret (v := (-2)) hx hb hr (fun t ht hW => ⟨⟨(-2), (u3, f4, u5), rfl, hv, by rw [ht]; exact hP9, va_K.moved hW.alike hK9, hD9⟩, hS.F ht⟩) hS.2.2 dX5_good_37
  · replace h := (if_neg c7).symm.trans h
    refine lv_aload hx hb dX5_good_21 (lv_at hl 1 rfl) ?_
    refine lv_iload_n hx hb dX5_good_23 rfl (lv_at hl 5 rfl) ?_
    obtain ⟨r8, hr8, h⟩ := Option.bind_eq_some_iff.mp h
    have hPc := hP.sub (ws' := [(y0, .inr (0, [.int y0_p, .int y0_a, .int y0_b, .int y0_from, .int y0_kernelPoint, .int y0_kernelOrder, .int u5, .int y0_inner, .int y0_outer, .int y0_makersFound, .int y0_first, .int y0_second]))]) [5] rfl
    have hKc := hK.sub (tys' := []) [] rfl
    refine vp_callSi (W.runV (As := [.int a2]) (rest := []) ⟨hx, hb, hml, hown, hts⟩ (ctX0_holds l N dC dI  y0 y0_p y0_a y0_b y0_from y0_kernelPoint y0_kernelOrder u5 y0_inner y0_outer y0_makersFound y0_first y0_second a2 r8 hr8) (cwV 1 hts gX5_good_X0_holds rfl rfl rfl (by decide +kernel) ⟨Nat.le_of_ble_eq_true rfl, Nat.le_of_ble_eq_true rfl⟩) ⟨fun a U g mk q => by obtain ⟨q0, qP, qK, qN⟩ := q; exact ⟨q0, qP, va_K.moved (u := U) (U := U.calling g mk a) (Vm.Alike.refl U.vm) qK, nw_same (u := U) (U := U.calling g mk a) rfl qN⟩, va_recv hKc hPc (ci := 0) (q0 := 0) rfl rfl, fun U hU hW => ⟨rfl, by rw [hU]; exact hPc, va_K.moved hW.alike hKc, nw_warm hW hN⟩⟩ rfl rfl hl.1 rfl (lv_room (Nat.le_of_ble_eq_true rfl)) dX5_good_24 ⟨Nat.le_of_ble_eq_true rfl, Nat.le_of_ble_eq_true rfl⟩) (fun q9 eq9 => ?_)
    subst q9
    refine lv_if_eq (tgt := 35) hx hb dX5_good_27 (by decide) (fun c9 => ?_) (fun c9 => ?_)
    · replace h := (if_pos c9).symm.trans h
      refine lv_bipush (v := (-2)) hx hb dX5_good_35 (by decide) ?_
      have hv : ((-2), u3, f4, u5) = rr := Option.some.inj h
      have hP9 := hP.sub (ws' := [(h0, .inr (4, [.ref h0_held, .int t_size, .ref h0_survey])), (h0_held, .inl (k_t_held, 24, .inr (.inr (.inr (.inr t_held))))), (h0_survey, .inr (3, [.ref h0_survey_roots, .ref h0_survey_strides, .ref h0_survey_halvesFound])), (h0_survey_roots, .inr (1, [.ref h0_survey_roots_least, .int u3])), (h0_survey_roots_least, .inl (k_t_survey_roots_least, 10007, .inl f4)), (y0, .inr (0, [.int y0_p, .int y0_a, .int y0_b, .int y0_from, .int y0_kernelPoint, .int y0_kernelOrder, .int u5, .int y0_inner, .int y0_outer, .int y0_makersFound, .int y0_first, .int y0_second]))]) [0, 1, 2, 3, 4, 5] rfl
      have hD9 := hD.sub (ws' := [(h0, .inr (4, [.ref h0_held, .int t_size, .ref h0_survey])), (h0_held, .inl (k_t_held, 24, .inr (.inr (.inr (.inr t_held))))), (h0_survey, .inr (3, [.ref h0_survey_roots, .ref h0_survey_strides, .ref h0_survey_halvesFound])), (h0_survey_roots, .inr (1, [.ref h0_survey_roots_least, .int u3])), (h0_survey_roots_least, .inl (k_t_survey_roots_least, 10007, .inl f4)), (y0, .inr (0, [.int y0_p, .int y0_a, .int y0_b, .int y0_from, .int y0_kernelPoint, .int y0_kernelOrder, .int u5, .int y0_inner, .int y0_outer, .int y0_makersFound, .int y0_first, .int y0_second]))]) [0, 1, 2, 3, 4, 5] (by decide) rfl
      have hK9 := hK.sub (tys' := [(k_t_held, .object "PointRings$Curve"), (k_t_survey_roots_least, .int)]) [0, 1] rfl
      exact W.iret (v := (-2)) hx hb hr (fun t ht hW => ⟨⟨(-2), (u3, f4, u5), rfl, hv, by rw [ht]; exact hP9, va_K.moved hW.alike hK9, hD9⟩, hS.F ht⟩) hS.2.2 dX5_good_37
    · replace h := (if_neg c9).symm.trans h
      refine lv_iload hx hb dX5_good_30 (lv_at hl 6 rfl) ?_
      refine lv_if_ge (tgt := 38) hx hb dX5_good_32 (by decide) (fun c10 => ?_) (fun c10 => ?_)
      · replace h := (if_pos c10).symm.trans h
        refine lv_iload hx hb dX5_good_38 (lv_at hl 7 rfl) ?_
        refine lv_iconst (v := 1) hx hb dX5_good_40 (by decide) ?_
        refine lv_icmp_lt (tgt := 64) hx hb dX5_good_41 (by decide) (fun c11 => ?_) (fun c11 => ?_)
        · replace h := (if_pos c11).symm.trans h
          refine lv_iconst (v := 0) hx hb dX5_good_64 (by decide) ?_
          have hv : (0, u3, f4, u5) = rr := Option.some.inj h
          have hP9 := hP.sub (ws' := [(h0, .inr (4, [.ref h0_held, .int t_size, .ref h0_survey])), (h0_held, .inl (k_t_held, 24, .inr (.inr (.inr (.inr t_held))))), (h0_survey, .inr (3, [.ref h0_survey_roots, .ref h0_survey_strides, .ref h0_survey_halvesFound])), (h0_survey_roots, .inr (1, [.ref h0_survey_roots_least, .int u3])), (h0_survey_roots_least, .inl (k_t_survey_roots_least, 10007, .inl f4)), (y0, .inr (0, [.int y0_p, .int y0_a, .int y0_b, .int y0_from, .int y0_kernelPoint, .int y0_kernelOrder, .int u5, .int y0_inner, .int y0_outer, .int y0_makersFound, .int y0_first, .int y0_second]))]) [0, 1, 2, 3, 4, 5] rfl
          have hD9 := hD.sub (ws' := [(h0, .inr (4, [.ref h0_held, .int t_size, .ref h0_survey])), (h0_held, .inl (k_t_held, 24, .inr (.inr (.inr (.inr t_held))))), (h0_survey, .inr (3, [.ref h0_survey_roots, .ref h0_survey_strides, .ref h0_survey_halvesFound])), (h0_survey_roots, .inr (1, [.ref h0_survey_roots_least, .int u3])), (h0_survey_roots_least, .inl (k_t_survey_roots_least, 10007, .inl f4)), (y0, .inr (0, [.int y0_p, .int y0_a, .int y0_b, .int y0_from, .int y0_kernelPoint, .int y0_kernelOrder, .int u5, .int y0_inner, .int y0_outer, .int y0_makersFound, .int y0_first, .int y0_second]))]) [0, 1, 2, 3, 4, 5] (by decide) rfl
          have hK9 := hK.sub (tys' := [(k_t_held, .object "PointRings$Curve"), (k_t_survey_roots_least, .int)]) [0, 1] rfl
          exact W.iret (v := 0) hx hb hr (fun t ht hW => ⟨⟨0, (u3, f4, u5), rfl, hv, by rw [ht]; exact hP9, va_K.moved hW.alike hK9, hD9⟩, hS.F ht⟩) hS.2.2 dX5_good_65
        · replace h := (if_neg c11).symm.trans h
          refine lv_iload hx hb dX5_good_44 (lv_at hl 7 rfl) ?_
          refine lv_iload hx hb dX5_good_46 (lv_at hl 0 rfl) ?_
          refine lv_icmp_ge (tgt := 64) hx hb dX5_good_48 (by decide) (fun c12 => ?_) (fun c12 => ?_)
          · replace h := (if_pos c12).symm.trans h
            refine lv_iconst (v := 0) hx hb dX5_good_64 (by decide) ?_
            have hv : (0, u3, f4, u5) = rr := Option.some.inj h
            have hP9 := hP.sub (ws' := [(h0, .inr (4, [.ref h0_held, .int t_size, .ref h0_survey])), (h0_held, .inl (k_t_held, 24, .inr (.inr (.inr (.inr t_held))))), (h0_survey, .inr (3, [.ref h0_survey_roots, .ref h0_survey_strides, .ref h0_survey_halvesFound])), (h0_survey_roots, .inr (1, [.ref h0_survey_roots_least, .int u3])), (h0_survey_roots_least, .inl (k_t_survey_roots_least, 10007, .inl f4)), (y0, .inr (0, [.int y0_p, .int y0_a, .int y0_b, .int y0_from, .int y0_kernelPoint, .int y0_kernelOrder, .int u5, .int y0_inner, .int y0_outer, .int y0_makersFound, .int y0_first, .int y0_second]))]) [0, 1, 2, 3, 4, 5] rfl
            have hD9 := hD.sub (ws' := [(h0, .inr (4, [.ref h0_held, .int t_size, .ref h0_survey])), (h0_held, .inl (k_t_held, 24, .inr (.inr (.inr (.inr t_held))))), (h0_survey, .inr (3, [.ref h0_survey_roots, .ref h0_survey_strides, .ref h0_survey_halvesFound])), (h0_survey_roots, .inr (1, [.ref h0_survey_roots_least, .int u3])), (h0_survey_roots_least, .inl (k_t_survey_roots_least, 10007, .inl f4)), (y0, .inr (0, [.int y0_p, .int y0_a, .int y0_b, .int y0_from, .int y0_kernelPoint, .int y0_kernelOrder, .int u5, .int y0_inner, .int y0_outer, .int y0_makersFound, .int y0_first, .int y0_second]))]) [0, 1, 2, 3, 4, 5] (by decide) rfl
            have hK9 := hK.sub (tys' := [(k_t_held, .object "PointRings$Curve"), (k_t_survey_roots_least, .int)]) [0, 1] rfl
            exact W.iret (v := 0) hx hb hr (fun t ht hW => ⟨⟨0, (u3, f4, u5), rfl, hv, by rw [ht]; exact hP9, va_K.moved hW.alike hK9, hD9⟩, hS.F ht⟩) hS.2.2 dX5_good_65
          · replace h := (if_neg c12).symm.trans h
            refine lv_iload hx hb dX5_good_51 (lv_at hl 8 rfl) ?_
            refine lv_iconst (v := 1) hx hb dX5_good_53 (by decide) ?_
            refine lv_icmp_lt (tgt := 64) hx hb dX5_good_54 (by decide) (fun c13 => ?_) (fun c13 => ?_)
            · replace h := (if_pos c13).symm.trans h
              refine lv_iconst (v := 0) hx hb dX5_good_64 (by decide) ?_
              have hv : (0, u3, f4, u5) = rr := Option.some.inj h
              have hP9 := hP.sub (ws' := [(h0, .inr (4, [.ref h0_held, .int t_size, .ref h0_survey])), (h0_held, .inl (k_t_held, 24, .inr (.inr (.inr (.inr t_held))))), (h0_survey, .inr (3, [.ref h0_survey_roots, .ref h0_survey_strides, .ref h0_survey_halvesFound])), (h0_survey_roots, .inr (1, [.ref h0_survey_roots_least, .int u3])), (h0_survey_roots_least, .inl (k_t_survey_roots_least, 10007, .inl f4)), (y0, .inr (0, [.int y0_p, .int y0_a, .int y0_b, .int y0_from, .int y0_kernelPoint, .int y0_kernelOrder, .int u5, .int y0_inner, .int y0_outer, .int y0_makersFound, .int y0_first, .int y0_second]))]) [0, 1, 2, 3, 4, 5] rfl
              have hD9 := hD.sub (ws' := [(h0, .inr (4, [.ref h0_held, .int t_size, .ref h0_survey])), (h0_held, .inl (k_t_held, 24, .inr (.inr (.inr (.inr t_held))))), (h0_survey, .inr (3, [.ref h0_survey_roots, .ref h0_survey_strides, .ref h0_survey_halvesFound])), (h0_survey_roots, .inr (1, [.ref h0_survey_roots_least, .int u3])), (h0_survey_roots_least, .inl (k_t_survey_roots_least, 10007, .inl f4)), (y0, .inr (0, [.int y0_p, .int y0_a, .int y0_b, .int y0_from, .int y0_kernelPoint, .int y0_kernelOrder, .int u5, .int y0_inner, .int y0_outer, .int y0_makersFound, .int y0_first, .int y0_second]))]) [0, 1, 2, 3, 4, 5] (by decide) rfl
              have hK9 := hK.sub (tys' := [(k_t_held, .object "PointRings$Curve"), (k_t_survey_roots_least, .int)]) [0, 1] rfl
              exact W.iret (v := 0) hx hb hr (fun t ht hW => ⟨⟨0, (u3, f4, u5), rfl, hv, by rw [ht]; exact hP9, va_K.moved hW.alike hK9, hD9⟩, hS.F ht⟩) hS.2.2 dX5_good_65
            · replace h := (if_neg c13).symm.trans h
              refine lv_iload hx hb dX5_good_57 (lv_at hl 8 rfl) ?_
              refine lv_iload hx hb dX5_good_59 (lv_at hl 0 rfl) ?_
              refine lv_icmp_lt (tgt := 66) hx hb dX5_good_61 (by decide) (fun c14 => ?_) (fun c14 => ?_)
              · replace h := (if_pos c14).symm.trans h
                refine lv_iload hx hb dX5_good_66 (lv_at hl 8 rfl) ?_
                refine lv_iload hx hb dX5_good_68 (lv_at hl 0 rfl) ?_
                obtain ⟨r15, hr15, h⟩ := Option.bind_eq_some_iff.mp h
                refine vp_callSi (W.runS (As := [.int a5, .int r6]) (rest := []) ⟨hx, hb, hml, hown, hts⟩ (ctX4_inverted l N  a5 r6 r15 hr15) (va_cwS 2 hts gX5_good_X4_inverted rfl rfl rfl (by decide +kernel) ⟨Nat.le_of_ble_eq_true rfl, Nat.le_of_ble_eq_true rfl⟩) preEq rfl rfl hl.1 rfl (lv_room (Nat.le_of_ble_eq_true rfl)) dX5_good_70 ⟨Nat.le_of_ble_eq_true rfl, Nat.le_of_ble_eq_true rfl⟩) (fun q9 eq9 => ?_)
                subst q9
                refine lv_istore (lv' := [(9, .int r15), (8, .int r6), (7, .ref y0), (0, .ref h0), (1, .int a0), (2, .int a1), (3, .int a2), (4, .int a3), (5, .int a4), (6, .int a5)]) hx hb dX5_good_73 hl (by decide) rfl (fun ls hl => ?_)
                refine lv_aload hx hb dX5_good_75 (lv_at hl 2 rfl) ?_
                refine lv_aload hx hb dX5_good_77 (lv_at hl 2 rfl) ?_
                refine lv_iload_n hx hb dX5_good_79 rfl (lv_at hl 5 rfl) ?_
                refine lv_iload hx hb dX5_good_80 (lv_at hl 7 rfl) ?_
                refine lv_iload hx hb dX5_good_82 (lv_at hl 1 rfl) ?_
                have hn16 : ¬ r6 = 0 := fun hz => absurd ((if_pos hz).symm.trans h) (fun hh => nomatch hh)
                replace h := (if_neg hn16).symm.trans h
                refine lv_irem hx hb dX5_good_84 hn16 ?_
                refine lv_topi (fun v17 ev17 => ?_)
                replace h := mi_use ev17 h
                refine lv_iload hx hb dX5_good_85 (lv_at hl 0 rfl) ?_
                refine lv_imul hx hb dX5_good_87 ?_
                refine lv_iload hx hb dX5_good_88 (lv_at hl 1 rfl) ?_
                have hn18 : ¬ r6 = 0 := fun hz => absurd ((if_pos hz).symm.trans h) (fun hh => nomatch hh)
                replace h := (if_neg hn18).symm.trans h
                refine lv_irem hx hb dX5_good_90 hn18 ?_
                refine lv_topi (fun v19 ev19 => ?_)
                replace h := mi_use ev19 h
                refine lv_i2l hx hb dX5_good_91 rfl ?_
                obtain ⟨r20, hr20, h⟩ := Option.bind_eq_some_iff.mp h
                have hPc := hP.sub (ws' := [(y0, .inr (0, [.int y0_p, .int y0_a, .int y0_b, .int y0_from, .int y0_kernelPoint, .int y0_kernelOrder, .int u5, .int y0_inner, .int y0_outer, .int y0_makersFound, .int y0_first, .int y0_second]))]) [5] rfl
                have hKc := hK.sub (tys' := []) [] rfl
                refine vp_callSi (W.runV (As := [.int a1, .long v19.toInt64]) (rest := [.ref y0]) ⟨hx, hb, hml, hown, hts⟩ (ctX0_multiple l N dC dI  y0 y0_p y0_a y0_b y0_from y0_kernelPoint y0_kernelOrder u5 y0_inner y0_outer y0_makersFound y0_first y0_second a1 v19.toInt64 r20 hr20) (cwV 2 hts gX5_good_X0_multiple rfl rfl rfl (by decide +kernel) ⟨Nat.le_of_ble_eq_true rfl, Nat.le_of_ble_eq_true rfl⟩) ⟨fun a U g mk q => by obtain ⟨q0, qP, qK, qN⟩ := q; exact ⟨q0, qP, va_K.moved (u := U) (U := U.calling g mk a) (Vm.Alike.refl U.vm) qK, nw_same (u := U) (U := U.calling g mk a) rfl qN⟩, va_recv hKc hPc (ci := 0) (q0 := 0) rfl rfl, fun U hU hW => ⟨rfl, by rw [hU]; exact hPc, va_K.moved hW.alike hKc, nw_warm hW hN⟩⟩ rfl rfl hl.1 rfl (lv_room (Nat.le_of_ble_eq_true rfl)) dX5_good_92 ⟨Nat.le_of_ble_eq_true rfl, Nat.le_of_ble_eq_true rfl⟩) (fun q9 eq9 => ?_)
                subst q9
                refine lv_aload hx hb dX5_good_95 (lv_at hl 2 rfl) ?_
                refine lv_iload_n hx hb dX5_good_97 rfl (lv_at hl 6 rfl) ?_
                refine lv_iload hx hb dX5_good_98 (lv_at hl 8 rfl) ?_
                refine lv_iload hx hb dX5_good_100 (lv_at hl 0 rfl) ?_
                refine lv_imul hx hb dX5_good_102 ?_
                refine lv_iload hx hb dX5_good_103 (lv_at hl 1 rfl) ?_
                have hn21 : ¬ r6 = 0 := fun hz => absurd ((if_pos hz).symm.trans h) (fun hh => nomatch hh)
                replace h := (if_neg hn21).symm.trans h
                refine lv_irem hx hb dX5_good_105 hn21 ?_
                refine lv_topi (fun v22 ev22 => ?_)
                replace h := mi_use ev22 h
                refine lv_i2l hx hb dX5_good_106 rfl ?_
                obtain ⟨r23, hr23, h⟩ := Option.bind_eq_some_iff.mp h
                have hPc := hP.sub (ws' := [(y0, .inr (0, [.int y0_p, .int y0_a, .int y0_b, .int y0_from, .int y0_kernelPoint, .int y0_kernelOrder, .int u5, .int y0_inner, .int y0_outer, .int y0_makersFound, .int y0_first, .int y0_second]))]) [5] rfl
                have hKc := hK.sub (tys' := []) [] rfl
                refine vp_callSi (W.runV (As := [.int a2, .long v22.toInt64]) (rest := [.int r20, .ref y0]) ⟨hx, hb, hml, hown, hts⟩ (ctX0_multiple l N dC dI  y0 y0_p y0_a y0_b y0_from y0_kernelPoint y0_kernelOrder u5 y0_inner y0_outer y0_makersFound y0_first y0_second a2 v22.toInt64 r23 hr23) (cwV 2 hts gX5_good_X0_multiple rfl rfl rfl (by decide +kernel) ⟨Nat.le_of_ble_eq_true rfl, Nat.le_of_ble_eq_true rfl⟩) ⟨fun a U g mk q => by obtain ⟨q0, qP, qK, qN⟩ := q; exact ⟨q0, qP, va_K.moved (u := U) (U := U.calling g mk a) (Vm.Alike.refl U.vm) qK, nw_same (u := U) (U := U.calling g mk a) rfl qN⟩, va_recv hKc hPc (ci := 0) (q0 := 0) rfl rfl, fun U hU hW => ⟨rfl, by rw [hU]; exact hPc, va_K.moved hW.alike hKc, nw_warm hW hN⟩⟩ rfl rfl hl.1 rfl (lv_room (Nat.le_of_ble_eq_true rfl)) dX5_good_107 ⟨Nat.le_of_ble_eq_true rfl, Nat.le_of_ble_eq_true rfl⟩) (fun q9 eq9 => ?_)
                subst q9
                obtain ⟨r24, hr24, h⟩ := Option.bind_eq_some_iff.mp h
                have hPc := hP.sub (ws' := [(y0, .inr (0, [.int y0_p, .int y0_a, .int y0_b, .int y0_from, .int y0_kernelPoint, .int y0_kernelOrder, .int u5, .int y0_inner, .int y0_outer, .int y0_makersFound, .int y0_first, .int y0_second]))]) [5] rfl
                have hKc := hK.sub (tys' := []) [] rfl
                refine vp_callSi (W.runV (As := [.int r20, .int r23]) (rest := []) ⟨hx, hb, hml, hown, hts⟩ (ctX0_sum l N dC dI  y0 y0_p y0_a y0_b y0_from y0_kernelPoint y0_kernelOrder u5 y0_inner y0_outer y0_makersFound y0_first y0_second r20 r23 r24 hr24) (cwV 2 hts gX5_good_X0_sum rfl rfl rfl (by decide +kernel) ⟨Nat.le_of_ble_eq_true rfl, Nat.le_of_ble_eq_true rfl⟩) ⟨fun a U g mk q => by obtain ⟨q0, qP, qK, qN⟩ := q; exact ⟨q0, qP, va_K.moved (u := U) (U := U.calling g mk a) (Vm.Alike.refl U.vm) qK, nw_same (u := U) (U := U.calling g mk a) rfl qN⟩, va_recv hKc hPc (ci := 0) (q0 := 0) rfl rfl, fun U hU hW => ⟨rfl, by rw [hU]; exact hPc, va_K.moved hW.alike hKc, nw_warm hW hN⟩⟩ rfl rfl hl.1 rfl (lv_room (Nat.le_of_ble_eq_true rfl)) dX5_good_110 ⟨Nat.le_of_ble_eq_true rfl, Nat.le_of_ble_eq_true rfl⟩) (fun q9 eq9 => ?_)
                subst q9
                refine lv_istore (lv' := [(10, .int r24), (9, .int r15), (8, .int r6), (7, .ref y0), (0, .ref h0), (1, .int a0), (2, .int a1), (3, .int a2), (4, .int a3), (5, .int a4), (6, .int a5)]) hx hb dX5_good_113 hl (by decide) rfl (fun ls hl => ?_)
                refine lv_iload hx hb dX5_good_115 (lv_at hl 0 rfl) ?_
                refine lv_iconst (v := (-1)) hx hb dX5_good_117 (by decide) ?_
                refine lv_icmp_eq (tgt := 138) hx hb dX5_good_118 (by decide) (fun c25 => ?_) (fun c25 => ?_)
                · replace h := (if_pos c25).symm.trans h
                  refine lv_iconst (v := 0) hx hb dX5_good_138 (by decide) ?_
                  have hv : (0, u3, f4, u5) = rr := Option.some.inj h
                  have hP9 := hP.sub (ws' := [(h0, .inr (4, [.ref h0_held, .int t_size, .ref h0_survey])), (h0_held, .inl (k_t_held, 24, .inr (.inr (.inr (.inr t_held))))), (h0_survey, .inr (3, [.ref h0_survey_roots, .ref h0_survey_strides, .ref h0_survey_halvesFound])), (h0_survey_roots, .inr (1, [.ref h0_survey_roots_least, .int u3])), (h0_survey_roots_least, .inl (k_t_survey_roots_least, 10007, .inl f4)), (y0, .inr (0, [.int y0_p, .int y0_a, .int y0_b, .int y0_from, .int y0_kernelPoint, .int y0_kernelOrder, .int u5, .int y0_inner, .int y0_outer, .int y0_makersFound, .int y0_first, .int y0_second]))]) [0, 1, 2, 3, 4, 5] rfl
                  have hD9 := hD.sub (ws' := [(h0, .inr (4, [.ref h0_held, .int t_size, .ref h0_survey])), (h0_held, .inl (k_t_held, 24, .inr (.inr (.inr (.inr t_held))))), (h0_survey, .inr (3, [.ref h0_survey_roots, .ref h0_survey_strides, .ref h0_survey_halvesFound])), (h0_survey_roots, .inr (1, [.ref h0_survey_roots_least, .int u3])), (h0_survey_roots_least, .inl (k_t_survey_roots_least, 10007, .inl f4)), (y0, .inr (0, [.int y0_p, .int y0_a, .int y0_b, .int y0_from, .int y0_kernelPoint, .int y0_kernelOrder, .int u5, .int y0_inner, .int y0_outer, .int y0_makersFound, .int y0_first, .int y0_second]))]) [0, 1, 2, 3, 4, 5] (by decide) rfl
                  have hK9 := hK.sub (tys' := [(k_t_held, .object "PointRings$Curve"), (k_t_survey_roots_least, .int)]) [0, 1] rfl
                  exact W.iret (v := 0) hx hb hr (fun t ht hW => ⟨⟨0, (u3, f4, u5), rfl, hv, by rw [ht]; exact hP9, va_K.moved hW.alike hK9, hD9⟩, hS.F ht⟩) hS.2.2 dX5_good_139
                · replace h := (if_neg c25).symm.trans h
                  refine lv_iload hx hb dX5_good_121 (lv_at hl 0 rfl) ?_
                  obtain ⟨r26, hr26, h⟩ := Option.bind_eq_some_iff.mp h
                  refine vp_callSi (W.runS (As := [.int r24]) (rest := []) ⟨hx, hb, hml, hown, hts⟩ (ctX5_xOf l N  r24 r26 hr26) (va_cwS 1 hts gX5_good_X5_xOf rfl rfl rfl (by decide +kernel) ⟨Nat.le_of_ble_eq_true rfl, Nat.le_of_ble_eq_true rfl⟩) preEq rfl rfl hl.1 rfl (lv_room (Nat.le_of_ble_eq_true rfl)) dX5_good_123 ⟨Nat.le_of_ble_eq_true rfl, Nat.le_of_ble_eq_true rfl⟩) (fun q9 eq9 => ?_)
                  subst q9
                  refine lv_iload hx hb dX5_good_126 (lv_at hl 2 rfl) ?_
                  have hn27 : ¬ r6 = 0 := fun hz => absurd ((if_pos hz).symm.trans h) (fun hh => nomatch hh)
                  replace h := (if_neg hn27).symm.trans h
                  refine lv_irem hx hb dX5_good_128 hn27 ?_
                  refine lv_topi (fun v28 ev28 => ?_)
                  replace h := mi_use ev28 h
                  refine lv_iload hx hb dX5_good_129 (lv_at hl 9 rfl) ?_
                  refine lv_icmp_ne (tgt := 138) hx hb dX5_good_131 (by decide) (fun c29 => ?_) (fun c29 => ?_)
                  · replace h := (if_neg c29).symm.trans h
                    refine lv_iconst (v := 0) hx hb dX5_good_138 (by decide) ?_
                    have hv : (0, u3, f4, u5) = rr := Option.some.inj h
                    have hP9 := hP.sub (ws' := [(h0, .inr (4, [.ref h0_held, .int t_size, .ref h0_survey])), (h0_held, .inl (k_t_held, 24, .inr (.inr (.inr (.inr t_held))))), (h0_survey, .inr (3, [.ref h0_survey_roots, .ref h0_survey_strides, .ref h0_survey_halvesFound])), (h0_survey_roots, .inr (1, [.ref h0_survey_roots_least, .int u3])), (h0_survey_roots_least, .inl (k_t_survey_roots_least, 10007, .inl f4)), (y0, .inr (0, [.int y0_p, .int y0_a, .int y0_b, .int y0_from, .int y0_kernelPoint, .int y0_kernelOrder, .int u5, .int y0_inner, .int y0_outer, .int y0_makersFound, .int y0_first, .int y0_second]))]) [0, 1, 2, 3, 4, 5] rfl
                    have hD9 := hD.sub (ws' := [(h0, .inr (4, [.ref h0_held, .int t_size, .ref h0_survey])), (h0_held, .inl (k_t_held, 24, .inr (.inr (.inr (.inr t_held))))), (h0_survey, .inr (3, [.ref h0_survey_roots, .ref h0_survey_strides, .ref h0_survey_halvesFound])), (h0_survey_roots, .inr (1, [.ref h0_survey_roots_least, .int u3])), (h0_survey_roots_least, .inl (k_t_survey_roots_least, 10007, .inl f4)), (y0, .inr (0, [.int y0_p, .int y0_a, .int y0_b, .int y0_from, .int y0_kernelPoint, .int y0_kernelOrder, .int u5, .int y0_inner, .int y0_outer, .int y0_makersFound, .int y0_first, .int y0_second]))]) [0, 1, 2, 3, 4, 5] (by decide) rfl
                    have hK9 := hK.sub (tys' := [(k_t_held, .object "PointRings$Curve"), (k_t_survey_roots_least, .int)]) [0, 1] rfl
                    exact W.iret (v := 0) hx hb hr (fun t ht hW => ⟨⟨0, (u3, f4, u5), rfl, hv, by rw [ht]; exact hP9, va_K.moved hW.alike hK9, hD9⟩, hS.F ht⟩) hS.2.2 dX5_good_139
                  · replace h := (if_pos c29).symm.trans h
                    refine lv_iconst (v := 1) hx hb dX5_good_134 (by decide) ?_
                    refine lv_goto (tgt := 139) hx hb dX5_good_135 (by decide) ?_
                    have hv : (1, u3, f4, u5) = rr := Option.some.inj h
                    have hP9 := hP.sub (ws' := [(h0, .inr (4, [.ref h0_held, .int t_size, .ref h0_survey])), (h0_held, .inl (k_t_held, 24, .inr (.inr (.inr (.inr t_held))))), (h0_survey, .inr (3, [.ref h0_survey_roots, .ref h0_survey_strides, .ref h0_survey_halvesFound])), (h0_survey_roots, .inr (1, [.ref h0_survey_roots_least, .int u3])), (h0_survey_roots_least, .inl (k_t_survey_roots_least, 10007, .inl f4)), (y0, .inr (0, [.int y0_p, .int y0_a, .int y0_b, .int y0_from, .int y0_kernelPoint, .int y0_kernelOrder, .int u5, .int y0_inner, .int y0_outer, .int y0_makersFound, .int y0_first, .int y0_second]))]) [0, 1, 2, 3, 4, 5] rfl
                    have hD9 := hD.sub (ws' := [(h0, .inr (4, [.ref h0_held, .int t_size, .ref h0_survey])), (h0_held, .inl (k_t_held, 24, .inr (.inr (.inr (.inr t_held))))), (h0_survey, .inr (3, [.ref h0_survey_roots, .ref h0_survey_strides, .ref h0_survey_halvesFound])), (h0_survey_roots, .inr (1, [.ref h0_survey_roots_least, .int u3])), (h0_survey_roots_least, .inl (k_t_survey_roots_least, 10007, .inl f4)), (y0, .inr (0, [.int y0_p, .int y0_a, .int y0_b, .int y0_from, .int y0_kernelPoint, .int y0_kernelOrder, .int u5, .int y0_inner, .int y0_outer, .int y0_makersFound, .int y0_first, .int y0_second]))]) [0, 1, 2, 3, 4, 5] (by decide) rfl
                    have hK9 := hK.sub (tys' := [(k_t_held, .object "PointRings$Curve"), (k_t_survey_roots_least, .int)]) [0, 1] rfl
                    exact W.iret (v := 1) hx hb hr (fun t ht hW => ⟨⟨1, (u3, f4, u5), rfl, hv, by rw [ht]; exact hP9, va_K.moved hW.alike hK9, hD9⟩, hS.F ht⟩) hS.2.2 dX5_good_139
              · replace h := (if_neg c14).symm.trans h
                refine lv_iconst (v := 0) hx hb dX5_good_64 (by decide) ?_
                have hv : (0, u3, f4, u5) = rr := Option.some.inj h
                have hP9 := hP.sub (ws' := [(h0, .inr (4, [.ref h0_held, .int t_size, .ref h0_survey])), (h0_held, .inl (k_t_held, 24, .inr (.inr (.inr (.inr t_held))))), (h0_survey, .inr (3, [.ref h0_survey_roots, .ref h0_survey_strides, .ref h0_survey_halvesFound])), (h0_survey_roots, .inr (1, [.ref h0_survey_roots_least, .int u3])), (h0_survey_roots_least, .inl (k_t_survey_roots_least, 10007, .inl f4)), (y0, .inr (0, [.int y0_p, .int y0_a, .int y0_b, .int y0_from, .int y0_kernelPoint, .int y0_kernelOrder, .int u5, .int y0_inner, .int y0_outer, .int y0_makersFound, .int y0_first, .int y0_second]))]) [0, 1, 2, 3, 4, 5] rfl
                have hD9 := hD.sub (ws' := [(h0, .inr (4, [.ref h0_held, .int t_size, .ref h0_survey])), (h0_held, .inl (k_t_held, 24, .inr (.inr (.inr (.inr t_held))))), (h0_survey, .inr (3, [.ref h0_survey_roots, .ref h0_survey_strides, .ref h0_survey_halvesFound])), (h0_survey_roots, .inr (1, [.ref h0_survey_roots_least, .int u3])), (h0_survey_roots_least, .inl (k_t_survey_roots_least, 10007, .inl f4)), (y0, .inr (0, [.int y0_p, .int y0_a, .int y0_b, .int y0_from, .int y0_kernelPoint, .int y0_kernelOrder, .int u5, .int y0_inner, .int y0_outer, .int y0_makersFound, .int y0_first, .int y0_second]))]) [0, 1, 2, 3, 4, 5] (by decide) rfl
                have hK9 := hK.sub (tys' := [(k_t_held, .object "PointRings$Curve"), (k_t_survey_roots_least, .int)]) [0, 1] rfl
                exact W.iret (v := 0) hx hb hr (fun t ht hW => ⟨⟨0, (u3, f4, u5), rfl, hv, by rw [ht]; exact hP9, va_K.moved hW.alike hK9, hD9⟩, hS.F ht⟩) hS.2.2 dX5_good_65
      · replace h := (if_neg c10).symm.trans h
        refine lv_bipush (v := (-2)) hx hb dX5_good_35 (by decide) ?_
        have hv : ((-2), u3, f4, u5) = rr := Option.some.inj h
        have hP9 := hP.sub (ws' := [(h0, .inr (4, [.ref h0_held, .int t_size, .ref h0_survey])), (h0_held, .inl (k_t_held, 24, .inr (.inr (.inr (.inr t_held))))), (h0_survey, .inr (3, [.ref h0_survey_roots, .ref h0_survey_strides, .ref h0_survey_halvesFound])), (h0_survey_roots, .inr (1, [.ref h0_survey_roots_least, .int u3])), (h0_survey_roots_least, .inl (k_t_survey_roots_least, 10007, .inl f4)), (y0, .inr (0, [.int y0_p, .int y0_a, .int y0_b, .int y0_from, .int y0_kernelPoint, .int y0_kernelOrder, .int u5, .int y0_inner, .int y0_outer, .int y0_makersFound, .int y0_first, .int y0_second]))]) [0, 1, 2, 3, 4, 5] rfl
        have hD9 := hD.sub (ws' := [(h0, .inr (4, [.ref h0_held, .int t_size, .ref h0_survey])), (h0_held, .inl (k_t_held, 24, .inr (.inr (.inr (.inr t_held))))), (h0_survey, .inr (3, [.ref h0_survey_roots, .ref h0_survey_strides, .ref h0_survey_halvesFound])), (h0_survey_roots, .inr (1, [.ref h0_survey_roots_least, .int u3])), (h0_survey_roots_least, .inl (k_t_survey_roots_least, 10007, .inl f4)), (y0, .inr (0, [.int y0_p, .int y0_a, .int y0_b, .int y0_from, .int y0_kernelPoint, .int y0_kernelOrder, .int u5, .int y0_inner, .int y0_outer, .int y0_makersFound, .int y0_first, .int y0_second]))]) [0, 1, 2, 3, 4, 5] (by decide) rfl
        have hK9 := hK.sub (tys' := [(k_t_held, .object "PointRings$Curve"), (k_t_survey_roots_least, .int)]) [0, 1] rfl
        exact W.iret (v := (-2)) hx hb hr (fun t ht hW => ⟨⟨(-2), (u3, f4, u5), rfl, hv, by rw [ht]; exact hP9, va_K.moved hW.alike hK9, hD9⟩, hS.F ht⟩) hS.2.2 dX5_good_37
