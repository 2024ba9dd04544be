def mX1_init (N : Nat)  : Option (Int32 × (Nat → Int32)) := some (0, (fun _ => 0))
abbrev rmX1_init : Room := { frames := 1, cells := 1, slots := 10007, locals := 12 }
set_option maxHeartbeats 4000000 in
set_option maxRecDepth 100000 in
theorem ctX1_init (l : Launch) (N : Nat) (dC : Nat → ClassId) (dI : Nat → Nat → Nat) (sz : Nat) (h0 : Nat) (t_prime : Int32) (rr : Int32 × (Nat → Int32)) (h : mX1_init N  = some rr) : Met l yX1_init wsX1_init rmX1_init (va_Pc [.ref h0] (fun U => U.heap.size = sz ∧ va_P (dC, dI) vwCl [(h0, .inr (1, [.null, .int t_prime]))] U.heap ∧ va_K (dC, dI) vwCl [] U ∧ nw_all U ∧ va_D (fun _ => True) [(h0, .inr (1, [.null, .int t_prime]))])) (va_Qv (fun (u : Int32 × (Nat → Int32)) => u = rr) (fun (u : Int32 × (Nat → Int32)) t => match u with | (u0, u1) => ∃ q8 : Nat, ∃ k8 : ClassId, va_P (dC, dI) vwCl [(h0, .inr (1, [.ref q8, .int u0])), (q8, .inl (k8, 10007, .inl u1))] t.heap ∧ va_K (dC, dI) vwCl [(k8, .int)] t ∧ va_D (va_A [(h0, .inr (1, [.null, .int t_prime]))] sz) [(h0, .inr (1, [.ref q8, .int u0])), (q8, .inl (k8, 10007, .inl u1))]) (va_A [(h0, .inr (1, [.null, .int t_prime]))] sz)) 1 10007 (va_A [(h0, .inr (1, [.null, .int t_prime]))] sz) := by
  refine Met.ofW (cc := cX1_init) (maxL := 1) (ret := none) (by decide) rfl ?_
  intro p e s m args below meth c s₁ B hml hv
  obtain ⟨rfl, hsz, hP, hK, hN, hD0⟩ := hv
  have hx := B.exec
  have hb := B.bytes
  have hr := B.returns
  have hts := atoms_spec (ws := wsX1_init) B.pre
  have hown : s.vm.findClass RX1 = some m.cls := findClass_of_methodNamed B.named
  have hlocks := B.notSynchronized
  have hin : meth.name = "<init>" := (name_of_methodNamed B.named B.method).1
  subst hsz
  have hD := hD0.self (sz := s.heap.size)
  generalize hAe : va_A [(h0, .inr (1, [.null, .int t_prime]))] s.heap.size = A at hD ⊢
  have hA0 : ∀ q : Nat, s.heap.size ≤ q → A q := fun q h => by rw [← hAe]; exact Or.inr h
  have hS : va_S A s.heap s.heap [] := va_S.rf
  have hP : va_P (dC, dI) vwCl [(h0, .inr (1, [.null, .int t_prime]))] s.heap := hP
  have hl := lv_entry ([.ref h0]) (n := 1) (Nat.le_of_ble_eq_true rfl)
  rw [lg_entry_eq]
  generalize (lg_sl ([.ref h0]) ++ List.replicate (1 - (lg_sl ([.ref h0])).length) Slot.unset).toArray = ls at hl ⊢
  have hl : lv_has ls 1 [(0, .ref h0)] := hl
  dsimp only [mX1_init] at h
  refine lv_aload_n hx hb dX1_init_0 rfl (lv_at hl 0 rfl) ?_
  refine W.objInit hx hb hown (hts (.methodLink RX1 3 objectInit) (by decide +kernel)) (hts (.instanceMethod objectInit) (by decide +kernel)) (hts (.code objectInit ⟨#[0xb1]⟩ 1 none) (by decide +kernel)) rfl (by rw [hml]; exact hl.1) rfl dX1_init_1 (Nat.le_of_ble_eq_true rfl) (Nat.le_of_ble_eq_true rfl) ?_
  refine W.eq (g2 := F0 m 4 ls []) rfl ?_
  refine lv_aload_n hx hb dX1_init_4 rfl (lv_at hl 0 rfl) ?_
  refine lv_sipush (v := 10007) hx hb dX1_init_5 (by decide) ?_
  refine va_newa (atype := .int) (ty := .int) (N' := 10007) (a0 := (10007, .inl (fun _ => 0))) hx hb (hts (.arrayClass .int) (by decide +kernel)) rfl hK hP hD hS hA0 (mi_az 10007) (by decide +kernel) (by decide +kernel) (by decide +kernel) (by decide +kernel) (by decide +kernel) dX1_init_8 (fun q8 k8 H hK hP hD hS => ?_)
  have hP : va_P (dC, dI) vwCl [(h0, .inr (1, [.null, .int t_prime])), (q8, .inl (k8, 10007, .inl (fun _ => 0)))] H := hP
  have hD : va_D A [(h0, .inr (1, [.null, .int t_prime])), (q8, .inl (k8, 10007, .inl (fun _ => 0)))] := hD
  have hK : va_K (dC, dI) vwCl [(k8, .int)] s := hK
  refine va_putF (D := (dC, dI)) (ci := 1) (v := .ref q8) (ty := .array (.int)) (C := RX1) (T := TX1) (N := 2) hx hb hts (by decide +kernel) tyX1 tyX1_ok nmX1 hown hK hP hD hS 0 rfl rfl 0 (by decide) (hts (.fieldLink RX1 9 "PointRings$Roots" "least" "[I") (by decide +kernel)) (fun _ h9 => h9) rfl hin rfl (by decide +kernel) rfl rfl (Nat.le_of_ble_eq_true rfl) dX1_init_10 (fun H locs hP hD hS => ?_)
  have hP : va_P (dC, dI) vwCl [(h0, .inr (1, [.ref q8, .int t_prime])), (q8, .inl (k8, 10007, .inl (fun _ => 0)))] H := hP
  have hD : va_D A [(h0, .inr (1, [.ref q8, .int t_prime])), (q8, .inl (k8, 10007, .inl (fun _ => 0)))] := hD
  refine lv_aload_n hx hb dX1_init_13 rfl (lv_at hl 0 rfl) ?_
  refine lv_iconst (v := 0) hx hb dX1_init_14 (by decide) ?_
  refine va_put (D := (dC, dI)) (ci := 1) (v := .int 0) (ty := .int) (C := RX1) (T := TX1) (N := 2) hx hb hts (by decide +kernel) tyX1 tyX1_ok nmX1 hown hK hP hD hS 0 rfl rfl 1 (by decide) (hts (.fieldLink RX1 15 "PointRings$Roots" "prime" "I") (by decide +kernel)) (fun _ h9 => h9) rfl (by decide +kernel) rfl rfl (Nat.le_of_ble_eq_true rfl) dX1_init_15 (fun H locs hP hD hS => ?_)
  have hP : va_P (dC, dI) vwCl [(h0, .inr (1, [.ref q8, .int 0])), (q8, .inl (k8, 10007, .inl (fun _ => 0)))] H := hP
  have hD : va_D A [(h0, .inr (1, [.ref q8, .int 0])), (q8, .inl (k8, 10007, .inl (fun _ => 0)))] := hD
  have hv : (0, (fun _ => 0)) = rr := Option.some.inj h
  have hP9 := hP.sub (ws' := [(h0, .inr (1, [.ref q8, .int 0])), (q8, .inl (k8, 10007, .inl (fun _ => 0)))]) [0, 1] rfl
  have hD9 := hD.sub (ws' := [(h0, .inr (1, [.ref q8, .int 0])), (q8, .inl (k8, 10007, .inl (fun _ => 0)))]) [0, 1] (by decide) rfl
  have hK9 := hK.sub (tys' := [(k8, .int)]) [0] rfl
  refine W.widen (k := 1) (n := 10007) (by decide +kernel) (by decide +kernel) ?_
  exact W.vret hx hb hr (fun t ht hW => ⟨⟨(0, (fun _ => 0)), rfl, hv, q8, k8, by rw [ht]; exact hP9, va_K.moved hW.alike hK9, hD9⟩, hS.F ht⟩) hS.2.2 dX1_init_18
