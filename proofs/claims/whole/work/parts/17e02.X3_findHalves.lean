def mX3_findHalves_b17 (N : Nat) (p0_p : Int32) (p0_a : Int32) (p0_b : Int32) (a1 : Int32) (st : Int32 × Int32 × Int32 × (Nat → Int32) × (Nat → Int32)) : Option ((Int32 × Int32 × Int32 × (Nat → Int32) × (Nat → Int32)) ⊕ (Int32 × Int32 × Int32 × (Nat → Int32) × (Nat → Int32))) :=
  match st with
  | (x2, x3, x4, x5, x6) => if p0_p ≤ x3 then some (.inr (x2, x3, x4, x5, x6)) else (mX3_mayHalve N p0_p p0_a p0_b x3 a1).bind (fun r13 => if r13 = 0 then mi_let (x3 + 1) (fun v15 => some (.inl (x2, v15, x4, x5, x6))) else (mX3_lesserAt N x4 x6 p0_p p0_a p0_b x3).bind (fun r16 => match r16 with | (r19, u17, f18) => (mX0_opposite N p0_p r19).bind (fun r20 => if r19 = (-1) then if r20 = r19 then mi_let (x3 + 1) (fun v23 => some (.inl (x2, v23, u17, x5, f18))) else (mX0_sum N p0_p p0_a r20 r20).bind (fun r24 => if r24 = a1 then (mX3_keepHalf N x5 r20 x2).bind (fun r27 => match r27 with | (r29, f28) => mi_let (x3 + 1) (fun v30 => some (.inl (r29, v30, u17, f28, f18)))) else mi_let (x3 + 1) (fun v26 => some (.inl (x2, v26, u17, x5, f18)))) else (mX0_sum N p0_p p0_a r19 r19).bind (fun r31 => if r31 = a1 then (mX3_keepHalf N x5 r19 x2).bind (fun r42 => match r42 with | (r44, f43) => if r20 = r19 then mi_let (x3 + 1) (fun v46 => some (.inl (r44, v46, u17, f43, f18))) else (mX0_sum N p0_p p0_a r20 r20).bind (fun r47 => if r47 = a1 then (mX3_keepHalf N f43 r20 r44).bind (fun r50 => match r50 with | (r52, f51) => mi_let (x3 + 1) (fun v53 => some (.inl (r52, v53, u17, f51, f18)))) else mi_let (x3 + 1) (fun v49 => some (.inl (r44, v49, u17, f43, f18))))) else if r20 = r19 then mi_let (x3 + 1) (fun v34 => some (.inl (x2, v34, u17, x5, f18))) else (mX0_sum N p0_p p0_a r20 r20).bind (fun r35 => if r35 = a1 then (mX3_keepHalf N x5 r20 x2).bind (fun r38 => match r38 with | (r40, f39) => mi_let (x3 + 1) (fun v41 => some (.inl (r40, v41, u17, f39, f18)))) else mi_let (x3 + 1) (fun v37 => some (.inl (x2, v37, u17, x5, f18))))))))
def mX3_findHalves (N : Nat) (t_roots_prime : Int32) (t_halvesFound : Nat → Int32) (t_roots_least : Nat → Int32) (p0_p : Int32) (p0_a : Int32) (p0_b : Int32) (a1 : Int32) : Option (Int32 × Int32 × (Nat → Int32) × (Nat → Int32)) := if a1 = (-1) then (mX3_keepHalf N t_halvesFound (-1) 0).bind (fun r55 => match r55 with | (r57, f56) => (mi_run (mX3_findHalves_b17 N p0_p p0_a p0_b a1) N (r57, 0, t_roots_prime, f56, t_roots_least)).bind (fun o110 => match o110 with | (y63, y64, y65, y66, y67) => some (y63, y65, y66, y67))) else (mi_run (mX3_findHalves_b17 N p0_p p0_a p0_b a1) N (0, 0, t_roots_prime, t_halvesFound, t_roots_least)).bind (fun o54 => match o54 with | (y7, y8, y9, y10, y11) => some (y7, y9, y10, y11))
abbrev rmX3_findHalves : Room := { frames := 3, cells := 0, slots := 0, locals := 67 }
set_option maxHeartbeats 4000000 in
set_option maxRecDepth 100000 in
theorem ctX3_findHalves (l : Launch) (N : Nat) (dC : Nat → ClassId) (dI : Nat → Nat → Nat) (sz : Nat) (h0 : Nat) (h0_roots : Nat) (h0_halvesFound : Nat) (h0_roots_least : Nat) (h1 : Nat) (h0_strides : Nat) (k_t_halvesFound : ClassId) (k_t_roots_least : ClassId) (t_roots_prime : Int32) (t_halvesFound : Nat → Int32) (t_roots_least : Nat → Int32) (p0_p : Int32) (p0_a : Int32) (p0_b : Int32) (p0_from : Int32) (p0_kernelPoint : Int32) (p0_kernelOrder : Int32) (p0_points : Int32) (p0_inner : Int32) (p0_outer : Int32) (p0_makersFound : Int32) (p0_first : Int32) (p0_second : Int32) (a1 : Int32) (rr : Int32 × Int32 × (Nat → Int32) × (Nat → Int32)) (h : mX3_findHalves N t_roots_prime t_halvesFound t_roots_least p0_p p0_a p0_b a1 = some rr) : Met l yX3_findHalves wsX3_findHalves rmX3_findHalves (va_Pc [.ref h0, .ref h1, .int a1] (fun U => U.heap.size = sz ∧ va_P (dC, dI) vwCl [(h0, .inr (3, [.ref h0_roots, .ref h0_strides, .ref h0_halvesFound])), (h0_roots, .inr (1, [.ref h0_roots_least, .int t_roots_prime])), (h0_halvesFound, .inl (k_t_halvesFound, 4, .inl t_halvesFound)), (h0_roots_least, .inl (k_t_roots_least, 10007, .inl t_roots_least)), (h1, .inr (0, [.int p0_p, .int p0_a, .int p0_b, .int p0_from, .int p0_kernelPoint, .int p0_kernelOrder, .int p0_points, .int p0_inner, .int p0_outer, .int p0_makersFound, .int p0_first, .int p0_second]))] U.heap ∧ va_K (dC, dI) vwCl [(k_t_halvesFound, .int), (k_t_roots_least, .int)] U ∧ nw_all U ∧ va_D (fun _ => True) [(h0, .inr (3, [.ref h0_roots, .ref h0_strides, .ref h0_halvesFound])), (h0_roots, .inr (1, [.ref h0_roots_least, .int t_roots_prime])), (h0_halvesFound, .inl (k_t_halvesFound, 4, .inl t_halvesFound)), (h0_roots_least, .inl (k_t_roots_least, 10007, .inl t_roots_least)), (h1, .inr (0, [.int p0_p, .int p0_a, .int p0_b, .int p0_from, .int p0_kernelPoint, .int p0_kernelOrder, .int p0_points, .int p0_inner, .int p0_outer, .int p0_makersFound, .int p0_first, .int p0_second]))])) (va_Qi (fun (r : Int32) (u : Int32 × (Nat → Int32) × (Nat → Int32)) => (r, u) = rr) (fun (u : Int32 × (Nat → Int32) × (Nat → Int32)) t => match u with | (u0, u1, u2) => va_P (dC, dI) vwCl [(h0, .inr (3, [.ref h0_roots, .ref h0_strides, .ref h0_halvesFound])), (h0_roots, .inr (1, [.ref h0_roots_least, .int u0])), (h0_halvesFound, .inl (k_t_halvesFound, 4, .inl u1)), (h0_roots_least, .inl (k_t_roots_least, 10007, .inl u2)), (h1, .inr (0, [.int p0_p, .int p0_a, .int p0_b, .int p0_from, .int p0_kernelPoint, .int p0_kernelOrder, .int p0_points, .int p0_inner, .int p0_outer, .int p0_makersFound, .int p0_first, .int p0_second]))] t.heap ∧ va_K (dC, dI) vwCl [(k_t_halvesFound, .int), (k_t_roots_least, .int)] t ∧ va_D (va_A [(h0, .inr (3, [.ref h0_roots, .ref h0_strides, .ref h0_halvesFound])), (h0_roots, .inr (1, [.ref h0_roots_least, .int t_roots_prime])), (h0_halvesFound, .inl (k_t_halvesFound, 4, .inl t_halvesFound)), (h0_roots_least, .inl (k_t_roots_least, 10007, .inl t_roots_least)), (h1, .inr (0, [.int p0_p, .int p0_a, .int p0_b, .int p0_from, .int p0_kernelPoint, .int p0_kernelOrder, .int p0_points, .int p0_inner, .int p0_outer, .int p0_makersFound, .int p0_first, .int p0_second]))] sz) [(h0, .inr (3, [.ref h0_roots, .ref h0_strides, .ref h0_halvesFound])), (h0_roots, .inr (1, [.ref h0_roots_least, .int u0])), (h0_halvesFound, .inl (k_t_halvesFound, 4, .inl u1)), (h0_roots_least, .inl (k_t_roots_least, 10007, .inl u2)), (h1, .inr (0, [.int p0_p, .int p0_a, .int p0_b, .int p0_from, .int p0_kernelPoint, .int p0_kernelOrder, .int p0_points, .int p0_inner, .int p0_outer, .int p0_makersFound, .int p0_first, .int p0_second]))]) (va_A [(h0, .inr (3, [.ref h0_roots, .ref h0_strides, .ref h0_halvesFound])), (h0_roots, .inr (1, [.ref h0_roots_least, .int t_roots_prime])), (h0_halvesFound, .inl (k_t_halvesFound, 4, .inl t_halvesFound)), (h0_roots_least, .inl (k_t_roots_least, 10007, .inl t_roots_least)), (h1, .inr (0, [.int p0_p, .int p0_a, .int p0_b, .int p0_from, .int p0_kernelPoint, .int p0_kernelOrder, .int p0_points, .int p0_inner, .int p0_outer, .int p0_makersFound, .int p0_first, .int p0_second]))] sz)) 0 0 (va_A [(h0, .inr (3, [.ref h0_roots, .ref h0_strides, .ref h0_halvesFound])), (h0_roots, .inr (1, [.ref h0_roots_least, .int t_roots_prime])), (h0_halvesFound, .inl (k_t_halvesFound, 4, .inl t_halvesFound)), (h0_roots_least, .inl (k_t_roots_least, 10007, .inl t_roots_least)), (h1, .inr (0, [.int p0_p, .int p0_a, .int p0_b, .int p0_from, .int p0_kernelPoint, .int p0_kernelOrder, .int p0_points, .int p0_inner, .int p0_outer, .int p0_makersFound, .int p0_first, .int p0_second]))] sz) := by
  refine Met.ofW (cc := cX3_findHalves) (maxL := 7) (ret := (some .int)) (by decide) rfl ?_
  intro p e s m args below meth c s₁ B hml hv
  obtain ⟨rfl, hsz, hP, hK, hN, hD0⟩ := hv
  have hx := B.exec
  have hb := B.bytes
  have hr := B.returns
  have hts := atoms_spec (ws := wsX3_findHalves) B.pre
  have hown : s.vm.findClass RX3 = some m.cls := findClass_of_methodNamed B.named
  have hlocks := B.notSynchronized
  subst hsz
  have hD := hD0.self (sz := s.heap.size)
  generalize hAe : va_A [(h0, .inr (3, [.ref h0_roots, .ref h0_strides, .ref h0_halvesFound])), (h0_roots, .inr (1, [.ref h0_roots_least, .int t_roots_prime])), (h0_halvesFound, .inl (k_t_halvesFound, 4, .inl t_halvesFound)), (h0_roots_least, .inl (k_t_roots_least, 10007, .inl t_roots_least)), (h1, .inr (0, [.int p0_p, .int p0_a, .int p0_b, .int p0_from, .int p0_kernelPoint, .int p0_kernelOrder, .int p0_points, .int p0_inner, .int p0_outer, .int p0_makersFound, .int p0_first, .int p0_second]))] s.heap.size = A at hD ⊢
  have hA0 : ∀ q : Nat, s.heap.size ≤ q → A q := fun q h => by rw [← hAe]; exact Or.inr h
  have hS : va_S A s.heap s.heap [] := va_S.rf
  have hP : va_P (dC, dI) vwCl [(h0, .inr (3, [.ref h0_roots, .ref h0_strides, .ref h0_halvesFound])), (h0_roots, .inr (1, [.ref h0_roots_least, .int t_roots_prime])), (h0_halvesFound, .inl (k_t_halvesFound, 4, .inl t_halvesFound)), (h0_roots_least, .inl (k_t_roots_least, 10007, .inl t_roots_least)), (h1, .inr (0, [.int p0_p, .int p0_a, .int p0_b, .int p0_from, .int p0_kernelPoint, .int p0_kernelOrder, .int p0_points, .int p0_inner, .int p0_outer, .int p0_makersFound, .int p0_first, .int p0_second]))] s.heap := hP
  have hl := lv_entry ([.ref h0, .ref h1, .int a1]) (n := 7) (Nat.le_of_ble_eq_true rfl)
  rw [lg_entry_eq]
  generalize (lg_sl ([.ref h0, .ref h1, .int a1]) ++ List.replicate (7 - (lg_sl ([.ref h0, .ref h1, .int a1])).length) Slot.unset).toArray = ls at hl ⊢
  have hl : lv_has ls 7 [(0, .ref h0), (1, .ref h1), (2, .int a1)] := hl
  dsimp only [mX3_findHalves] at h
  refine lv_iconst (v := 0) hx hb dX3_findHalves_0 (by decide) ?_
  refine lv_istore_n (lv' := [(3, .int 0), (0, .ref h0), (1, .ref h1), (2, .int a1)]) hx hb dX3_findHalves_1 rfl hl (by decide) rfl (fun ls hl => ?_)
  refine lv_iload_n hx hb dX3_findHalves_2 rfl (lv_at hl 3 rfl) ?_
  refine lv_iconst (v := (-1)) hx hb dX3_findHalves_3 (by decide) ?_
  refine lv_icmp_ne (tgt := 14) hx hb dX3_findHalves_4 (by decide) (fun c1 => ?_) (fun c1 => ?_)
  · replace h := (if_neg c1).symm.trans h
    refine lv_iconst (v := 0) hx hb dX3_findHalves_14 (by decide) ?_
    refine lv_istore (lv' := [(4, .int 0), (3, .int 0), (0, .ref h0), (1, .ref h1), (2, .int a1)]) hx hb dX3_findHalves_15 hl (by decide) rfl (fun ls hl => ?_)
    have L17 : ∀ (n : Nat) (x2 : Int32) (x3 : Int32) (x4 : Int32) (x5 : Nat → Int32) (x6 : Nat → Int32) (o : Int32 × Int32 × Int32 × (Nat → Int32) × (Nat → Int32)), mi_run (mX3_findHalves_b17 N p0_p p0_a p0_b a1) n (x2, x3, x4, x5, x6) = some o → (∀ (y7 : Int32) (y8 : Int32) (y9 : Int32) (y10 : Nat → Int32) (y11 : Nat → Int32), o = (y7, y8, y9, y10, y11) → ∀ (H : Heap) (locs : List Loc) (ls : Array Slot), va_P (dC, dI) vwCl [(h0, .inr (3, [.ref h0_roots, .ref h0_strides, .ref h0_halvesFound])), (h0_roots, .inr (1, [.ref h0_roots_least, .int y9])), (h0_halvesFound, .inl (k_t_halvesFound, 4, .inl y10)), (h0_roots_least, .inl (k_t_roots_least, 10007, .inl y11)), (h1, .inr (0, [.int p0_p, .int p0_a, .int p0_b, .int p0_from, .int p0_kernelPoint, .int p0_kernelOrder, .int p0_points, .int p0_inner, .int p0_outer, .int p0_makersFound, .int p0_first, .int p0_second]))] H → va_D A [(h0, .inr (3, [.ref h0_roots, .ref h0_strides, .ref h0_halvesFound])), (h0_roots, .inr (1, [.ref h0_roots_least, .int y9])), (h0_halvesFound, .inl (k_t_halvesFound, 4, .inl y10)), (h0_roots_least, .inl (k_t_roots_least, 10007, .inl y11)), (h1, .inr (0, [.int p0_p, .int p0_a, .int p0_b, .int p0_from, .int p0_kernelPoint, .int p0_kernelOrder, .int p0_points, .int p0_inner, .int p0_outer, .int p0_makersFound, .int p0_first, .int p0_second]))] → va_S A s.heap H locs → lv_has ls 7 [(3, .int y7), (4, .int y8), (0, .ref h0), (1, .ref h1), (2, .int a1)] → W p l e (headSpec wsX3_findHalves rmX3_findHalves).room s m (([.ref h0, .ref h1, .int a1] : List Value).toArray) below meth c H locs 0 0 (MQ below (va_Qi (fun (r : Int32) (u : Int32 × (Nat → Int32) × (Nat → Int32)) => (r, u) = rr) (fun (u : Int32 × (Nat → Int32) × (Nat → Int32)) t => match u with | (u0, u1, u2) => va_P (dC, dI) vwCl [(h0, .inr (3, [.ref h0_roots, .ref h0_strides, .ref h0_halvesFound])), (h0_roots, .inr (1, [.ref h0_roots_least, .int u0])), (h0_halvesFound, .inl (k_t_halvesFound, 4, .inl u1)), (h0_roots_least, .inl (k_t_roots_least, 10007, .inl u2)), (h1, .inr (0, [.int p0_p, .int p0_a, .int p0_b, .int p0_from, .int p0_kernelPoint, .int p0_kernelOrder, .int p0_points, .int p0_inner, .int p0_outer, .int p0_makersFound, .int p0_first, .int p0_second]))] t.heap ∧ va_K (dC, dI) vwCl [(k_t_halvesFound, .int), (k_t_roots_least, .int)] t ∧ va_D (A) [(h0, .inr (3, [.ref h0_roots, .ref h0_strides, .ref h0_halvesFound])), (h0_roots, .inr (1, [.ref h0_roots_least, .int u0])), (h0_halvesFound, .inl (k_t_halvesFound, 4, .inl u1)), (h0_roots_least, .inl (k_t_roots_least, 10007, .inl u2)), (h1, .inr (0, [.int p0_p, .int p0_a, .int p0_b, .int p0_from, .int p0_kernelPoint, .int p0_kernelOrder, .int p0_points, .int p0_inner, .int p0_outer, .int p0_makersFound, .int p0_first, .int p0_second]))]) (A)) (([.ref h0, .ref h1, .int a1] : List Value).toArray) s 0 0 A) (F0 m 112 ls [])) → ∀ (H : Heap) (locs : List Loc) (ls : Array Slot), va_P (dC, dI) vwCl [(h0, .inr (3, [.ref h0_roots, .ref h0_strides, .ref h0_halvesFound])), (h0_roots, .inr (1, [.ref h0_roots_least, .int x4])), (h0_halvesFound, .inl (k_t_halvesFound, 4, .inl x5)), (h0_roots_least, .inl (k_t_roots_least, 10007, .inl x6)), (h1, .inr (0, [.int p0_p, .int p0_a, .int p0_b, .int p0_from, .int p0_kernelPoint, .int p0_kernelOrder, .int p0_points, .int p0_inner, .int p0_outer, .int p0_makersFound, .int p0_first, .int p0_second]))] H → va_D A [(h0, .inr (3, [.ref h0_roots, .ref h0_strides, .ref h0_halvesFound])), (h0_roots, .inr (1, [.ref h0_roots_least, .int x4])), (h0_halvesFound, .inl (k_t_halvesFound, 4, .inl x5)), (h0_roots_least, .inl (k_t_roots_least, 10007, .inl x6)), (h1, .inr (0, [.int p0_p, .int p0_a, .int p0_b, .int p0_from, .int p0_kernelPoint, .int p0_kernelOrder, .int p0_points, .int p0_inner, .int p0_outer, .int p0_makersFound, .int p0_first, .int p0_second]))] → va_S A s.heap H locs → lv_has ls 7 [(3, .int x2), (4, .int x3), (0, .ref h0), (1, .ref h1), (2, .int a1)] → W p l e (headSpec wsX3_findHalves rmX3_findHalves).room s m (([.ref h0, .ref h1, .int a1] : List Value).toArray) below meth c H locs 0 0 (MQ below (va_Qi (fun (r : Int32) (u : Int32 × (Nat → Int32) × (Nat → Int32)) => (r, u) = rr) (fun (u : Int32 × (Nat → Int32) × (Nat → Int32)) t => match u with | (u0, u1, u2) => va_P (dC, dI) vwCl [(h0, .inr (3, [.ref h0_roots, .ref h0_strides, .ref h0_halvesFound])), (h0_roots, .inr (1, [.ref h0_roots_least, .int u0])), (h0_halvesFound, .inl (k_t_halvesFound, 4, .inl u1)), (h0_roots_least, .inl (k_t_roots_least, 10007, .inl u2)), (h1, .inr (0, [.int p0_p, .int p0_a, .int p0_b, .int p0_from, .int p0_kernelPoint, .int p0_kernelOrder, .int p0_points, .int p0_inner, .int p0_outer, .int p0_makersFound, .int p0_first, .int p0_second]))] t.heap ∧ va_K (dC, dI) vwCl [(k_t_halvesFound, .int), (k_t_roots_least, .int)] t ∧ va_D (A) [(h0, .inr (3, [.ref h0_roots, .ref h0_strides, .ref h0_halvesFound])), (h0_roots, .inr (1, [.ref h0_roots_least, .int u0])), (h0_halvesFound, .inl (k_t_halvesFound, 4, .inl u1)), (h0_roots_least, .inl (k_t_roots_least, 10007, .inl u2)), (h1, .inr (0, [.int p0_p, .int p0_a, .int p0_b, .int p0_from, .int p0_kernelPoint, .int p0_kernelOrder, .int p0_points, .int p0_inner, .int p0_outer, .int p0_makersFound, .int p0_first, .int p0_second]))]) (A)) (([.ref h0, .ref h1, .int a1] : List Value).toArray) s 0 0 A) (F0 m 17 ls []) := by
      intro n
      induction n with
      | zero => intro x2 x3 x4 x5 x6 o h; exact absurd h (mi_run_0 _ _ _)
      | succ n ih =>
        intro x2 x3 x4 x5 x6 o h hkE H locs ls hP hD hS hl
        obtain ⟨w, h, hA, hB⟩ := mi_run_s h
        dsimp only [mX3_findHalves_b17] at h
        refine lv_iload hx hb dX3_findHalves_17 (lv_at hl 1 rfl) ?_
        refine lv_aload_n hx hb dX3_findHalves_19 rfl (lv_at hl 3 rfl) ?_
        refine va_get (D := (dC, dI)) (ci := 0) (v := .int p0_p) (C := RX0) (T := TX0) (N := 12) hx hb hts (by decide +kernel) hown hK hP 4 rfl rfl 0 (by decide) (hts (.fieldLink RX3 39 "PointRings$Curve" "p" "I") (by decide +kernel)) (fun _ h9 => h9) rfl dX3_findHalves_20 ?_
        refine lv_icmp_ge (tgt := 112) hx hb dX3_findHalves_23 (by decide) (fun c12 => ?_) (fun c12 => ?_)
        · replace h := (if_pos c12).symm.trans h
          exact hkE _ _ _ _ _ (hB _ (Option.some.inj h).symm) _ _ ls hP hD hS (lv_sub hl [0, 1, 2, 3, 4] rfl)
        · replace h := (if_neg c12).symm.trans h
          refine lv_aload_n hx hb dX3_findHalves_26 rfl (lv_at hl 3 rfl) ?_
          refine lv_iload hx hb dX3_findHalves_27 (lv_at hl 1 rfl) ?_
          refine lv_iload_n hx hb dX3_findHalves_29 rfl (lv_at hl 4 rfl) ?_
          obtain ⟨r13, hr13, h⟩ := Option.bind_eq_some_iff.mp h
          have hPc := hP.sub (ws' := [(h1, .inr (0, [.int p0_p, .int p0_a, .int p0_b, .int p0_from, .int p0_kernelPoint, .int p0_kernelOrder, .int p0_points, .int p0_inner, .int p0_outer, .int p0_makersFound, .int p0_first, .int p0_second]))]) [4] rfl
          have hKc := hK.sub (tys' := []) [] rfl
          refine vp_callSi (W.runS (As := [.ref h1, .int x3, .int a1]) (rest := []) ⟨hx, hb, hml, hown, hts⟩ (ctX3_mayHalve l N dC dI  h1 p0_p p0_a p0_b p0_from p0_kernelPoint p0_kernelOrder p0_points p0_inner p0_outer p0_makersFound p0_first p0_second x3 a1 r13 hr13) (va_cwS 3 hts gX3_findHalves_X3_mayHalve rfl rfl rfl (by decide +kernel) ⟨Nat.le_of_ble_eq_true rfl, Nat.le_of_ble_eq_true rfl⟩) ⟨fun a U g mk q => by obtain ⟨q0, qP, qK, qN⟩ := q; exact ⟨q0, qP, va_K.moved (u := U) (U := U.calling g mk a) (Vm.Alike.refl U.vm) qK, nw_same (u := U) (U := U.calling g mk a) rfl qN⟩, fun U hU hW => ⟨rfl, by rw [hU]; exact hPc, va_K.moved hW.alike hKc, nw_warm hW hN⟩⟩ rfl rfl hl.1 rfl (lv_room (Nat.le_of_ble_eq_true rfl)) dX3_findHalves_30 ⟨Nat.le_of_ble_eq_true rfl, Nat.le_of_ble_eq_true rfl⟩) (fun q9 eq9 => ?_)
          subst q9
          refine lv_if_eq (tgt := 106) hx hb dX3_findHalves_33 (by decide) (fun c14 => ?_) (fun c14 => ?_)
          · replace h := (if_pos c14).symm.trans h
            obtain ⟨v15, ev15⟩ : ∃ z : Int32, z = x3 + 1 := ⟨_, rfl⟩
            refine lv_iinc (v := v15) (lv' := [(4, .int v15), (3, .int x2), (0, .ref h0), (1, .ref h1), (2, .int a1)]) hx hb dX3_findHalves_106 hl (k := 1) rfl (by rw [ev15]; rfl) (by decide) rfl (fun ls hl => ?_)
            replace h := mi_use ev15 h
            refine lv_goto (tgt := 17) hx hb dX3_findHalves_109 (by decide) ?_
            exact ih _ _ _ _ _ _ (hA _ (Option.some.inj h).symm) hkE _ _ ls hP hD hS (lv_sub hl [1, 0, 2, 3, 4] rfl)
          · replace h := (if_neg c14).symm.trans h
            refine lv_aload_n hx hb dX3_findHalves_36 rfl (lv_at hl 2 rfl) ?_
            refine lv_aload_n hx hb dX3_findHalves_37 rfl (lv_at hl 3 rfl) ?_
            refine lv_iload hx hb dX3_findHalves_38 (lv_at hl 1 rfl) ?_
            obtain ⟨r16, hr16, h⟩ := Option.bind_eq_some_iff.mp h
            have hPc := hP.sub (ws' := [(h0, .inr (3, [.ref h0_roots, .ref h0_strides, .ref h0_halvesFound])), (h0_roots, .inr (1, [.ref h0_roots_least, .int x4])), (h0_roots_least, .inl (k_t_roots_least, 10007, .inl x6)), (h1, .inr (0, [.int p0_p, .int p0_a, .int p0_b, .int p0_from, .int p0_kernelPoint, .int p0_kernelOrder, .int p0_points, .int p0_inner, .int p0_outer, .int p0_makersFound, .int p0_first, .int p0_second]))]) [0, 1, 3, 4] rfl
            have hDc := hD.sub (ws' := [(h0, .inr (3, [.ref h0_roots, .ref h0_strides, .ref h0_halvesFound])), (h0_roots, .inr (1, [.ref h0_roots_least, .int x4])), (h0_roots_least, .inl (k_t_roots_least, 10007, .inl x6)), (h1, .inr (0, [.int p0_p, .int p0_a, .int p0_b, .int p0_from, .int p0_kernelPoint, .int p0_kernelOrder, .int p0_points, .int p0_inner, .int p0_outer, .int p0_makersFound, .int p0_first, .int p0_second]))]) [0, 1, 3, 4] (by decide) rfl
            have hKc := hK.sub (tys' := [(k_t_roots_least, .int)]) [1] rfl
            have hFc := va_free (wc := [(h0, .inr (3, [.ref h0_roots, .ref h0_strides, .ref h0_halvesFound])), (h0_roots, .inr (1, [.ref h0_roots_least, .int x4])), (h0_roots_least, .inl (k_t_roots_least, 10007, .inl x6)), (h1, .inr (0, [.int p0_p, .int p0_a, .int p0_b, .int p0_from, .int p0_kernelPoint, .int p0_kernelOrder, .int p0_points, .int p0_inner, .int p0_outer, .int p0_makersFound, .int p0_first, .int p0_second]))]) hD hS hA0 [0, 1, 3, 4] rfl
            refine va_calli (va_runV (As := [.ref h1, .int x3]) (rest := []) ⟨hx, hb, hml, hown, hts⟩ (ctX3_lesserAt l N dC dI _ h0 h0_roots h0_roots_least h1 h0_strides h0_halvesFound k_t_roots_least x4 x6 p0_p p0_a p0_b p0_from p0_kernelPoint p0_kernelOrder p0_points p0_inner p0_outer p0_makersFound p0_first p0_second x3 r16 hr16) (cwV 2 hts gX3_findHalves_X3_lesserAt rfl rfl rfl (by decide +kernel) ⟨Nat.le_of_ble_eq_true rfl, Nat.le_of_ble_eq_true rfl⟩) ⟨fun a U g mk q => by obtain ⟨q0, q1, qP, qK, qN, qD⟩ := q; exact ⟨q0, q1, qP, va_K.moved (u := U) (U := U.calling g mk a) (Vm.Alike.refl U.vm) qK, nw_same (u := U) (U := U.calling g mk a) rfl qN, qD⟩, va_recv hKc hPc (ci := 3) (q0 := 0) rfl rfl, fun U hU hW => ⟨rfl, by rw [hU], by rw [hU]; exact hPc, va_K.moved hW.alike hKc, nw_warm hW hN, hDc.weaken (fun _ _ _ _ => trivial)⟩⟩ rfl rfl hl.1 rfl (lv_room (Nat.le_of_ble_eq_true rfl)) dX3_findHalves_40 ⟨Nat.le_of_ble_eq_true rfl, Nat.le_of_ble_eq_true rfl⟩) hS (fun q _ h => hFc q h) hFc (fun rz u t H1 locs ht hvm hw hB1 hz1 hk1 hS => ?_)
            obtain ⟨u17, f18⟩ := u
            obtain ⟨hP1, hK1, hD1⟩ := hB1
            rw [ht] at hP1
            have hK1 := va_K.moved hvm.symm hK1
            obtain ⟨r19, rfl⟩ : ∃ z, z = rz := ⟨_, rfl⟩
            subst hw
            try dsimp only at h
            obtain ⟨hP, hD⟩ := va_join (wr := [(h0_halvesFound, .inl (k_t_halvesFound, 4, .inl x5))]) (w1 := [(h0, .inr (3, [.ref h0_roots, .ref h0_strides, .ref h0_halvesFound])), (h0_roots, .inr (1, [.ref h0_roots_least, .int u17])), (h0_roots_least, .inl (k_t_roots_least, 10007, .inl f18)), (h1, .inr (0, [.int p0_p, .int p0_a, .int p0_b, .int p0_from, .int p0_kernelPoint, .int p0_kernelOrder, .int p0_points, .int p0_inner, .int p0_outer, .int p0_makersFound, .int p0_first, .int p0_second]))]) hP hD [0, 1, 3, 4] [2] rfl rfl (by decide) (by decide) hk1 hFc hP1 hD1
            generalize H1 = H at hP hS ⊢
            have hP := hP.sub (ws' := [(h0, .inr (3, [.ref h0_roots, .ref h0_strides, .ref h0_halvesFound])), (h0_roots, .inr (1, [.ref h0_roots_least, .int u17])), (h0_halvesFound, .inl (k_t_halvesFound, 4, .inl x5)), (h0_roots_least, .inl (k_t_roots_least, 10007, .inl f18)), (h1, .inr (0, [.int p0_p, .int p0_a, .int p0_b, .int p0_from, .int p0_kernelPoint, .int p0_kernelOrder, .int p0_points, .int p0_inner, .int p0_outer, .int p0_makersFound, .int p0_first, .int p0_second]))]) [1, 2, 0, 3, 4] rfl
            have hD := hD.sub (ws' := [(h0, .inr (3, [.ref h0_roots, .ref h0_strides, .ref h0_halvesFound])), (h0_roots, .inr (1, [.ref h0_roots_least, .int u17])), (h0_halvesFound, .inl (k_t_halvesFound, 4, .inl x5)), (h0_roots_least, .inl (k_t_roots_least, 10007, .inl f18)), (h1, .inr (0, [.int p0_p, .int p0_a, .int p0_b, .int p0_from, .int p0_kernelPoint, .int p0_kernelOrder, .int p0_points, .int p0_inner, .int p0_outer, .int p0_makersFound, .int p0_first, .int p0_second]))]) [1, 2, 0, 3, 4] (by decide) rfl
            refine lv_istore (lv' := [(5, .int r19), (3, .int x2), (4, .int x3), (0, .ref h0), (1, .ref h1), (2, .int a1)]) hx hb dX3_findHalves_43 hl (by decide) rfl (fun ls hl => ?_)
            refine lv_aload_n hx hb dX3_findHalves_45 rfl (lv_at hl 4 rfl) ?_
            refine lv_iload hx hb dX3_findHalves_46 (lv_at hl 0 rfl) ?_
            obtain ⟨r20, hr20, h⟩ := Option.bind_eq_some_iff.mp h
            have hPc := hP.sub (ws' := [(h1, .inr (0, [.int p0_p, .int p0_a, .int p0_b, .int p0_from, .int p0_kernelPoint, .int p0_kernelOrder, .int p0_points, .int p0_inner, .int p0_outer, .int p0_makersFound, .int p0_first, .int p0_second]))]) [4] rfl
            have hKc := hK.sub (tys' := []) [] rfl
            refine vp_callSi (W.runV (As := [.int r19]) (rest := []) ⟨hx, hb, hml, hown, hts⟩ (ctX0_opposite l N dC dI  h1 p0_p p0_a p0_b p0_from p0_kernelPoint p0_kernelOrder p0_points p0_inner p0_outer p0_makersFound p0_first p0_second r19 r20 hr20) (cwV 1 hts gX3_findHalves_X0_opposite rfl rfl rfl (by decide +kernel) ⟨Nat.le_of_ble_eq_true rfl, Nat.le_of_ble_eq_true rfl⟩) ⟨fun a U g mk q => by obtain ⟨q0, qP, qK, qN⟩ := q; exact ⟨q0, qP, va_K.moved (u := U) (U := U.calling g mk a) (Vm.Alike.refl U.vm) qK, nw_same (u := U) (U := U.calling g mk a) rfl qN⟩, va_recv hKc hPc (ci := 0) (q0 := 0) rfl rfl, fun U hU hW => ⟨rfl, by rw [hU]; exact hPc, va_K.moved hW.alike hKc, nw_warm hW hN⟩⟩ rfl rfl hl.1 rfl (lv_room (Nat.le_of_ble_eq_true rfl)) dX3_findHalves_48 ⟨Nat.le_of_ble_eq_true rfl, Nat.le_of_ble_eq_true rfl⟩) (fun q9 eq9 => ?_)
            subst q9
            refine lv_istore (lv' := [(6, .int r20), (5, .int r19), (3, .int x2), (4, .int x3), (0, .ref h0), (1, .ref h1), (2, .int a1)]) hx hb dX3_findHalves_51 hl (by decide) rfl (fun ls hl => ?_)
            refine lv_iload hx hb dX3_findHalves_53 (lv_at hl 1 rfl) ?_
            refine lv_iconst (v := (-1)) hx hb dX3_findHalves_55 (by decide) ?_
            refine lv_icmp_eq (tgt := 79) hx hb dX3_findHalves_56 (by decide) (fun c21 => ?_) (fun c21 => ?_)
            · replace h := (if_pos c21).symm.trans h
              refine lv_iload hx hb dX3_findHalves_79 (lv_at hl 0 rfl) ?_
              refine lv_iload hx hb dX3_findHalves_81 (lv_at hl 1 rfl) ?_
              refine lv_icmp_eq (tgt := 106) hx hb dX3_findHalves_83 (by decide) (fun c22 => ?_) (fun c22 => ?_)
              · replace h := (if_pos c22).symm.trans h
                obtain ⟨v23, ev23⟩ : ∃ z : Int32, z = x3 + 1 := ⟨_, rfl⟩
                refine lv_iinc (v := v23) (lv' := [(4, .int v23), (6, .int r20), (5, .int r19), (3, .int x2), (0, .ref h0), (1, .ref h1), (2, .int a1)]) hx hb dX3_findHalves_106 hl (k := 3) rfl (by rw [ev23]; rfl) (by decide) rfl (fun ls hl => ?_)
                replace h := mi_use ev23 h
                refine lv_goto (tgt := 17) hx hb dX3_findHalves_109 (by decide) ?_
                exact ih _ _ _ _ _ _ (hA _ (Option.some.inj h).symm) hkE _ _ ls hP hD hS (lv_sub hl [3, 0, 4, 5, 6] rfl)
              · replace h := (if_neg c22).symm.trans h
                refine lv_aload_n hx hb dX3_findHalves_86 rfl (lv_at hl 5 rfl) ?_
                refine lv_iload hx hb dX3_findHalves_87 (lv_at hl 0 rfl) ?_
                refine lv_iload hx hb dX3_findHalves_89 (lv_at hl 0 rfl) ?_
                obtain ⟨r24, hr24, h⟩ := Option.bind_eq_some_iff.mp h
                have hPc := hP.sub (ws' := [(h1, .inr (0, [.int p0_p, .int p0_a, .int p0_b, .int p0_from, .int p0_kernelPoint, .int p0_kernelOrder, .int p0_points, .int p0_inner, .int p0_outer, .int p0_makersFound, .int p0_first, .int p0_second]))]) [4] rfl
                have hKc := hK.sub (tys' := []) [] rfl
                refine vp_callSi (W.runV (As := [.int r20, .int r20]) (rest := []) ⟨hx, hb, hml, hown, hts⟩ (ctX0_sum l N dC dI  h1 p0_p p0_a p0_b p0_from p0_kernelPoint p0_kernelOrder p0_points p0_inner p0_outer p0_makersFound p0_first p0_second r20 r20 r24 hr24) (cwV 2 hts gX3_findHalves_X0_sum rfl rfl rfl (by decide +kernel) ⟨Nat.le_of_ble_eq_true rfl, Nat.le_of_ble_eq_true rfl⟩) ⟨fun a U g mk q => by obtain ⟨q0, qP, qK, qN⟩ := q; exact ⟨q0, qP, va_K.moved (u := U) (U := U.calling g mk a) (Vm.Alike.refl U.vm) qK, nw_same (u := U) (U := U.calling g mk a) rfl qN⟩, va_recv hKc hPc (ci := 0) (q0 := 0) rfl rfl, fun U hU hW => ⟨rfl, by rw [hU]; exact hPc, va_K.moved hW.alike hKc, nw_warm hW hN⟩⟩ rfl rfl hl.1 rfl (lv_room (Nat.le_of_ble_eq_true rfl)) dX3_findHalves_91 ⟨Nat.le_of_ble_eq_true rfl, Nat.le_of_ble_eq_true rfl⟩) (fun q9 eq9 => ?_)
                subst q9
                refine lv_iload_n hx hb dX3_findHalves_94 rfl (lv_at hl 6 rfl) ?_
                refine lv_icmp_ne (tgt := 106) hx hb dX3_findHalves_95 (by decide) (fun c25 => ?_) (fun c25 => ?_)
                · replace h := (if_neg c25).symm.trans h
                  obtain ⟨v26, ev26⟩ : ∃ z : Int32, z = x3 + 1 := ⟨_, rfl⟩
                  refine lv_iinc (v := v26) (lv' := [(4, .int v26), (6, .int r20), (5, .int r19), (3, .int x2), (0, .ref h0), (1, .ref h1), (2, .int a1)]) hx hb dX3_findHalves_106 hl (k := 3) rfl (by rw [ev26]; rfl) (by decide) rfl (fun ls hl => ?_)
                  replace h := mi_use ev26 h
                  refine lv_goto (tgt := 17) hx hb dX3_findHalves_109 (by decide) ?_
                  exact ih _ _ _ _ _ _ (hA _ (Option.some.inj h).symm) hkE _ _ ls hP hD hS (lv_sub hl [3, 0, 4, 5, 6] rfl)
                · replace h := (if_pos c25).symm.trans h
                  refine lv_aload_n hx hb dX3_findHalves_98 rfl (lv_at hl 4 rfl) ?_
                  refine lv_iload hx hb dX3_findHalves_99 (lv_at hl 0 rfl) ?_
                  refine lv_iload_n hx hb dX3_findHalves_101 rfl (lv_at hl 2 rfl) ?_
                  obtain ⟨r27, hr27, h⟩ := Option.bind_eq_some_iff.mp h
                  have hPc := hP.sub (ws' := [(h0, .inr (3, [.ref h0_roots, .ref h0_strides, .ref h0_halvesFound])), (h0_halvesFound, .inl (k_t_halvesFound, 4, .inl x5))]) [0, 2] rfl
                  have hDc := hD.sub (ws' := [(h0, .inr (3, [.ref h0_roots, .ref h0_strides, .ref h0_halvesFound])), (h0_halvesFound, .inl (k_t_halvesFound, 4, .inl x5))]) [0, 2] (by decide) rfl
                  have hKc := hK.sub (tys' := [(k_t_halvesFound, .int)]) [0] rfl
                  have hFc := va_free (wc := [(h0, .inr (3, [.ref h0_roots, .ref h0_strides, .ref h0_halvesFound])), (h0_halvesFound, .inl (k_t_halvesFound, 4, .inl x5))]) hD hS hA0 [0, 2] rfl
                  refine va_calli (va_runV (As := [.int r20, .int x2]) (rest := []) ⟨hx, hb, hml, hown, hts⟩ (ctX3_keepHalf l N dC dI _ h0 h0_halvesFound h0_roots h0_strides k_t_halvesFound x5 r20 x2 r27 hr27) (cwV 2 hts gX3_findHalves_X3_keepHalf rfl rfl rfl (by decide +kernel) ⟨Nat.le_of_ble_eq_true rfl, Nat.le_of_ble_eq_true rfl⟩) ⟨fun a U g mk q => by obtain ⟨q0, q1, qP, qK, qN, qD⟩ := q; exact ⟨q0, q1, qP, va_K.moved (u := U) (U := U.calling g mk a) (Vm.Alike.refl U.vm) qK, nw_same (u := U) (U := U.calling g mk a) rfl qN, qD⟩, va_recv hKc hPc (ci := 3) (q0 := 0) rfl rfl, fun U hU hW => ⟨rfl, by rw [hU], by rw [hU]; exact hPc, va_K.moved hW.alike hKc, nw_warm hW hN, hDc.weaken (fun _ _ _ _ => trivial)⟩⟩ rfl rfl hl.1 rfl (lv_room (Nat.le_of_ble_eq_true rfl)) dX3_findHalves_102 ⟨Nat.le_of_ble_eq_true rfl, Nat.le_of_ble_eq_true rfl⟩) hS (fun q _ h => hFc q h) hFc (fun rz u t H1 locs ht hvm hw hB1 hz1 hk1 hS => ?_)
                  obtain ⟨f28, rfl⟩ : ∃ z, z = u := ⟨_, rfl⟩
                  obtain ⟨hP1, hK1, hD1⟩ := hB1
                  rw [ht] at hP1
                  have hK1 := va_K.moved hvm.symm hK1
                  obtain ⟨r29, rfl⟩ : ∃ z, z = rz := ⟨_, rfl⟩
                  subst hw
                  try dsimp only at h
                  obtain ⟨hP, hD⟩ := va_join (wr := [(h0_roots, .inr (1, [.ref h0_roots_least, .int u17])), (h0_roots_least, .inl (k_t_roots_least, 10007, .inl f18)), (h1, .inr (0, [.int p0_p, .int p0_a, .int p0_b, .int p0_from, .int p0_kernelPoint, .int p0_kernelOrder, .int p0_points, .int p0_inner, .int p0_outer, .int p0_makersFound, .int p0_first, .int p0_second]))]) (w1 := [(h0, .inr (3, [.ref h0_roots, .ref h0_strides, .ref h0_halvesFound])), (h0_halvesFound, .inl (k_t_halvesFound, 4, .inl f28))]) hP hD [0, 2] [1, 3, 4] rfl rfl (by decide) (by decide) hk1 hFc hP1 hD1
                  generalize H1 = H at hP hS ⊢
                  have hP := hP.sub (ws' := [(h0, .inr (3, [.ref h0_roots, .ref h0_strides, .ref h0_halvesFound])), (h0_roots, .inr (1, [.ref h0_roots_least, .int u17])), (h0_halvesFound, .inl (k_t_halvesFound, 4, .inl f28)), (h0_roots_least, .inl (k_t_roots_least, 10007, .inl f18)), (h1, .inr (0, [.int p0_p, .int p0_a, .int p0_b, .int p0_from, .int p0_kernelPoint, .int p0_kernelOrder, .int p0_points, .int p0_inner, .int p0_outer, .int p0_makersFound, .int p0_first, .int p0_second]))]) [3, 0, 4, 1, 2] rfl
                  have hD := hD.sub (ws' := [(h0, .inr (3, [.ref h0_roots, .ref h0_strides, .ref h0_halvesFound])), (h0_roots, .inr (1, [.ref h0_roots_least, .int u17])), (h0_halvesFound, .inl (k_t_halvesFound, 4, .inl f28)), (h0_roots_least, .inl (k_t_roots_least, 10007, .inl f18)), (h1, .inr (0, [.int p0_p, .int p0_a, .int p0_b, .int p0_from, .int p0_kernelPoint, .int p0_kernelOrder, .int p0_points, .int p0_inner, .int p0_outer, .int p0_makersFound, .int p0_first, .int p0_second]))]) [3, 0, 4, 1, 2] (by decide) rfl
                  refine lv_istore_n (lv' := [(3, .int r29), (6, .int r20), (5, .int r19), (4, .int x3), (0, .ref h0), (1, .ref h1), (2, .int a1)]) hx hb dX3_findHalves_105 rfl hl (by decide) rfl (fun ls hl => ?_)
                  obtain ⟨v30, ev30⟩ : ∃ z : Int32, z = x3 + 1 := ⟨_, rfl⟩
                  refine lv_iinc (v := v30) (lv' := [(4, .int v30), (3, .int r29), (6, .int r20), (5, .int r19), (0, .ref h0), (1, .ref h1), (2, .int a1)]) hx hb dX3_findHalves_106 hl (k := 3) rfl (by rw [ev30]; rfl) (by decide) rfl (fun ls hl => ?_)
                  replace h := mi_use ev30 h
                  refine lv_goto (tgt := 17) hx hb dX3_findHalves_109 (by decide) ?_
                  exact ih _ _ _ _ _ _ (hA _ (Option.some.inj h).symm) hkE _ _ ls hP hD hS (lv_sub hl [1, 0, 4, 5, 6] rfl)
            · replace h := (if_neg c21).symm.trans h
              refine lv_aload_n hx hb dX3_findHalves_59 rfl (lv_at hl 5 rfl) ?_
              refine lv_iload hx hb dX3_findHalves_60 (lv_at hl 1 rfl) ?_
              refine lv_iload hx hb dX3_findHalves_62 (lv_at hl 1 rfl) ?_
              obtain ⟨r31, hr31, h⟩ := Option.bind_eq_some_iff.mp h
              have hPc := hP.sub (ws' := [(h1, .inr (0, [.int p0_p, .int p0_a, .int p0_b, .int p0_from, .int p0_kernelPoint, .int p0_kernelOrder, .int p0_points, .int p0_inner, .int p0_outer, .int p0_makersFound, .int p0_first, .int p0_second]))]) [4] rfl
              have hKc := hK.sub (tys' := []) [] rfl
              refine vp_callSi (W.runV (As := [.int r19, .int r19]) (rest := []) ⟨hx, hb, hml, hown, hts⟩ (ctX0_sum l N dC dI  h1 p0_p p0_a p0_b p0_from p0_kernelPoint p0_kernelOrder p0_points p0_inner p0_outer p0_makersFound p0_first p0_second r19 r19 r31 hr31) (cwV 2 hts gX3_findHalves_X0_sum rfl rfl rfl (by decide +kernel) ⟨Nat.le_of_ble_eq_true rfl, Nat.le_of_ble_eq_true rfl⟩) ⟨fun a U g mk q => by obtain ⟨q0, qP, qK, qN⟩ := q; exact ⟨q0, qP, va_K.moved (u := U) (U := U.calling g mk a) (Vm.Alike.refl U.vm) qK, nw_same (u := U) (U := U.calling g mk a) rfl qN⟩, va_recv hKc hPc (ci := 0) (q0 := 0) rfl rfl, fun U hU hW => ⟨rfl, by rw [hU]; exact hPc, va_K.moved hW.alike hKc, nw_warm hW hN⟩⟩ rfl rfl hl.1 rfl (lv_room (Nat.le_of_ble_eq_true rfl)) dX3_findHalves_64 ⟨Nat.le_of_ble_eq_true rfl, Nat.le_of_ble_eq_true rfl⟩) (fun q9 eq9 => ?_)
              subst q9
              refine lv_iload_n hx hb dX3_findHalves_67 rfl (lv_at hl 6 rfl) ?_
              refine lv_icmp_ne (tgt := 79) hx hb dX3_findHalves_68 (by decide) (fun c32 => ?_) (fun c32 => ?_)
              · replace h := (if_neg c32).symm.trans h
                refine lv_iload hx hb dX3_findHalves_79 (lv_at hl 0 rfl) ?_
                refine lv_iload hx hb dX3_findHalves_81 (lv_at hl 1 rfl) ?_
                refine lv_icmp_eq (tgt := 106) hx hb dX3_findHalves_83 (by decide) (fun c33 => ?_) (fun c33 => ?_)
                · replace h := (if_pos c33).symm.trans h
                  obtain ⟨v34, ev34⟩ : ∃ z : Int32, z = x3 + 1 := ⟨_, rfl⟩
                  refine lv_iinc (v := v34) (lv' := [(4, .int v34), (6, .int r20), (5, .int r19), (3, .int x2), (0, .ref h0), (1, .ref h1), (2, .int a1)]) hx hb dX3_findHalves_106 hl (k := 3) rfl (by rw [ev34]; rfl) (by decide) rfl (fun ls hl => ?_)
                  replace h := mi_use ev34 h
                  refine lv_goto (tgt := 17) hx hb dX3_findHalves_109 (by decide) ?_
                  exact ih _ _ _ _ _ _ (hA _ (Option.some.inj h).symm) hkE _ _ ls hP hD hS (lv_sub hl [3, 0, 4, 5, 6] rfl)
                · replace h := (if_neg c33).symm.trans h
                  refine lv_aload_n hx hb dX3_findHalves_86 rfl (lv_at hl 5 rfl) ?_
                  refine lv_iload hx hb dX3_findHalves_87 (lv_at hl 0 rfl) ?_
                  refine lv_iload hx hb dX3_findHalves_89 (lv_at hl 0 rfl) ?_
                  obtain ⟨r35, hr35, h⟩ := Option.bind_eq_some_iff.mp h
                  have hPc := hP.sub (ws' := [(h1, .inr (0, [.int p0_p, .int p0_a, .int p0_b, .int p0_from, .int p0_kernelPoint, .int p0_kernelOrder, .int p0_points, .int p0_inner, .int p0_outer, .int p0_makersFound, .int p0_first, .int p0_second]))]) [4] rfl
                  have hKc := hK.sub (tys' := []) [] rfl
                  refine vp_callSi (W.runV (As := [.int r20, .int r20]) (rest := []) ⟨hx, hb, hml, hown, hts⟩ (ctX0_sum l N dC dI  h1 p0_p p0_a p0_b p0_from p0_kernelPoint p0_kernelOrder p0_points p0_inner p0_outer p0_makersFound p0_first p0_second r20 r20 r35 hr35) (cwV 2 hts gX3_findHalves_X0_sum rfl rfl rfl (by decide +kernel) ⟨Nat.le_of_ble_eq_true rfl, Nat.le_of_ble_eq_true rfl⟩) ⟨fun a U g mk q => by obtain ⟨q0, qP, qK, qN⟩ := q; exact ⟨q0, qP, va_K.moved (u := U) (U := U.calling g mk a) (Vm.Alike.refl U.vm) qK, nw_same (u := U) (U := U.calling g mk a) rfl qN⟩, va_recv hKc hPc (ci := 0) (q0 := 0) rfl rfl, fun U hU hW => ⟨rfl, by rw [hU]; exact hPc, va_K.moved hW.alike hKc, nw_warm hW hN⟩⟩ rfl rfl hl.1 rfl (lv_room (Nat.le_of_ble_eq_true rfl)) dX3_findHalves_91 ⟨Nat.le_of_ble_eq_true rfl, Nat.le_of_ble_eq_true rfl⟩) (fun q9 eq9 => ?_)
                  subst q9
                  refine lv_iload_n hx hb dX3_findHalves_94 rfl (lv_at hl 6 rfl) ?_
                  refine lv_icmp_ne (tgt := 106) hx hb dX3_findHalves_95 (by decide) (fun c36 => ?_) (fun c36 => ?_)
                  · replace h := (if_neg c36).symm.trans h
                    obtain ⟨v37, ev37⟩ : ∃ z : Int32, z = x3 + 1 := ⟨_, rfl⟩
                    refine lv_iinc (v := v37) (lv' := [(4, .int v37), (6, .int r20), (5, .int r19), (3, .int x2), (0, .ref h0), (1, .ref h1), (2, .int a1)]) hx hb dX3_findHalves_106 hl (k := 3) rfl (by rw [ev37]; rfl) (by decide) rfl (fun ls hl => ?_)
                    replace h := mi_use ev37 h
                    refine lv_goto (tgt := 17) hx hb dX3_findHalves_109 (by decide) ?_
                    exact ih _ _ _ _ _ _ (hA _ (Option.some.inj h).symm) hkE _ _ ls hP hD hS (lv_sub hl [3, 0, 4, 5, 6] rfl)
                  · replace h := (if_pos c36).symm.trans h
                    refine lv_aload_n hx hb dX3_findHalves_98 rfl (lv_at hl 4 rfl) ?_
                    refine lv_iload hx hb dX3_findHalves_99 (lv_at hl 0 rfl) ?_
                    refine lv_iload_n hx hb dX3_findHalves_101 rfl (lv_at hl 2 rfl) ?_
                    obtain ⟨r38, hr38, h⟩ := Option.bind_eq_some_iff.mp h
                    have hPc := hP.sub (ws' := [(h0, .inr (3, [.ref h0_roots, .ref h0_strides, .ref h0_halvesFound])), (h0_halvesFound, .inl (k_t_halvesFound, 4, .inl x5))]) [0, 2] rfl
                    have hDc := hD.sub (ws' := [(h0, .inr (3, [.ref h0_roots, .ref h0_strides, .ref h0_halvesFound])), (h0_halvesFound, .inl (k_t_halvesFound, 4, .inl x5))]) [0, 2] (by decide) rfl
                    have hKc := hK.sub (tys' := [(k_t_halvesFound, .int)]) [0] rfl
                    have hFc := va_free (wc := [(h0, .inr (3, [.ref h0_roots, .ref h0_strides, .ref h0_halvesFound])), (h0_halvesFound, .inl (k_t_halvesFound, 4, .inl x5))]) hD hS hA0 [0, 2] rfl
                    refine va_calli (va_runV (As := [.int r20, .int x2]) (rest := []) ⟨hx, hb, hml, hown, hts⟩ (ctX3_keepHalf l N dC dI _ h0 h0_halvesFound h0_roots h0_strides k_t_halvesFound x5 r20 x2 r38 hr38) (cwV 2 hts gX3_findHalves_X3_keepHalf rfl rfl rfl (by decide +kernel) ⟨Nat.le_of_ble_eq_true rfl, Nat.le_of_ble_eq_true rfl⟩) ⟨fun a U g mk q => by obtain ⟨q0, q1, qP, qK, qN, qD⟩ := q; exact ⟨q0, q1, qP, va_K.moved (u := U) (U := U.calling g mk a) (Vm.Alike.refl U.vm) qK, nw_same (u := U) (U := U.calling g mk a) rfl qN, qD⟩, va_recv hKc hPc (ci := 3) (q0 := 0) rfl rfl, fun U hU hW => ⟨rfl, by rw [hU], by rw [hU]; exact hPc, va_K.moved hW.alike hKc, nw_warm hW hN, hDc.weaken (fun _ _ _ _ => trivial)⟩⟩ rfl rfl hl.1 rfl (lv_room (Nat.le_of_ble_eq_true rfl)) dX3_findHalves_102 ⟨Nat.le_of_ble_eq_true rfl, Nat.le_of_ble_eq_true rfl⟩) hS (fun q _ h => hFc q h) hFc (fun rz u t H1 locs ht hvm hw hB1 hz1 hk1 hS => ?_)
                    obtain ⟨f39, rfl⟩ : ∃ z, z = u := ⟨_, rfl⟩
                    obtain ⟨hP1, hK1, hD1⟩ := hB1
                    rw [ht] at hP1
                    have hK1 := va_K.moved hvm.symm hK1
                    obtain ⟨r40, rfl⟩ : ∃ z, z = rz := ⟨_, rfl⟩
                    subst hw
                    try dsimp only at h
                    obtain ⟨hP, hD⟩ := va_join (wr := [(h0_roots, .inr (1, [.ref h0_roots_least, .int u17])), (h0_roots_least, .inl (k_t_roots_least, 10007, .inl f18)), (h1, .inr (0, [.int p0_p, .int p0_a, .int p0_b, .int p0_from, .int p0_kernelPoint, .int p0_kernelOrder, .int p0_points, .int p0_inner, .int p0_outer, .int p0_makersFound, .int p0_first, .int p0_second]))]) (w1 := [(h0, .inr (3, [.ref h0_roots, .ref h0_strides, .ref h0_halvesFound])), (h0_halvesFound, .inl (k_t_halvesFound, 4, .inl f39))]) hP hD [0, 2] [1, 3, 4] rfl rfl (by decide) (by decide) hk1 hFc hP1 hD1
                    generalize H1 = H at hP hS ⊢
                    have hP := hP.sub (ws' := [(h0, .inr (3, [.ref h0_roots, .ref h0_strides, .ref h0_halvesFound])), (h0_roots, .inr (1, [.ref h0_roots_least, .int u17])), (h0_halvesFound, .inl (k_t_halvesFound, 4, .inl f39)), (h0_roots_least, .inl (k_t_roots_least, 10007, .inl f18)), (h1, .inr (0, [.int p0_p, .int p0_a, .int p0_b, .int p0_from, .int p0_kernelPoint, .int p0_kernelOrder, .int p0_points, .int p0_inner, .int p0_outer, .int p0_makersFound, .int p0_first, .int p0_second]))]) [3, 0, 4, 1, 2] rfl
                    have hD := hD.sub (ws' := [(h0, .inr (3, [.ref h0_roots, .ref h0_strides, .ref h0_halvesFound])), (h0_roots, .inr (1, [.ref h0_roots_least, .int u17])), (h0_halvesFound, .inl (k_t_halvesFound, 4, .inl f39)), (h0_roots_least, .inl (k_t_roots_least, 10007, .inl f18)), (h1, .inr (0, [.int p0_p, .int p0_a, .int p0_b, .int p0_from, .int p0_kernelPoint, .int p0_kernelOrder, .int p0_points, .int p0_inner, .int p0_outer, .int p0_makersFound, .int p0_first, .int p0_second]))]) [3, 0, 4, 1, 2] (by decide) rfl
                    refine lv_istore_n (lv' := [(3, .int r40), (6, .int r20), (5, .int r19), (4, .int x3), (0, .ref h0), (1, .ref h1), (2, .int a1)]) hx hb dX3_findHalves_105 rfl hl (by decide) rfl (fun ls hl => ?_)
                    obtain ⟨v41, ev41⟩ : ∃ z : Int32, z = x3 + 1 := ⟨_, rfl⟩
                    refine lv_iinc (v := v41) (lv' := [(4, .int v41), (3, .int r40), (6, .int r20), (5, .int r19), (0, .ref h0), (1, .ref h1), (2, .int a1)]) hx hb dX3_findHalves_106 hl (k := 3) rfl (by rw [ev41]; rfl) (by decide) rfl (fun ls hl => ?_)
                    replace h := mi_use ev41 h
                    refine lv_goto (tgt := 17) hx hb dX3_findHalves_109 (by decide) ?_
                    exact ih _ _ _ _ _ _ (hA _ (Option.some.inj h).symm) hkE _ _ ls hP hD hS (lv_sub hl [1, 0, 4, 5, 6] rfl)
              · replace h := (if_pos c32).symm.trans h
                refine lv_aload_n hx hb dX3_findHalves_71 rfl (lv_at hl 4 rfl) ?_
                refine lv_iload hx hb dX3_findHalves_72 (lv_at hl 1 rfl) ?_
                refine lv_iload_n hx hb dX3_findHalves_74 rfl (lv_at hl 2 rfl) ?_
                obtain ⟨r42, hr42, h⟩ := Option.bind_eq_some_iff.mp h
                have hPc := hP.sub (ws' := [(h0, .inr (3, [.ref h0_roots, .ref h0_strides, .ref h0_halvesFound])), (h0_halvesFound, .inl (k_t_halvesFound, 4, .inl x5))]) [0, 2] rfl
                have hDc := hD.sub (ws' := [(h0, .inr (3, [.ref h0_roots, .ref h0_strides, .ref h0_halvesFound])), (h0_halvesFound, .inl (k_t_halvesFound, 4, .inl x5))]) [0, 2] (by decide) rfl
                have hKc := hK.sub (tys' := [(k_t_halvesFound, .int)]) [0] rfl
                have hFc := va_free (wc := [(h0, .inr (3, [.ref h0_roots, .ref h0_strides, .ref h0_halvesFound])), (h0_halvesFound, .inl (k_t_halvesFound, 4, .inl x5))]) hD hS hA0 [0, 2] rfl
                refine va_calli (va_runV (As := [.int r19, .int x2]) (rest := []) ⟨hx, hb, hml, hown, hts⟩ (ctX3_keepHalf l N dC dI _ h0 h0_halvesFound h0_roots h0_strides k_t_halvesFound x5 r19 x2 r42 hr42) (cwV 2 hts gX3_findHalves_X3_keepHalf rfl rfl rfl (by decide +kernel) ⟨Nat.le_of_ble_eq_true rfl, Nat.le_of_ble_eq_true rfl⟩) ⟨fun a U g mk q => by obtain ⟨q0, q1, qP, qK, qN, qD⟩ := q; exact ⟨q0, q1, qP, va_K.moved (u := U) (U := U.calling g mk a) (Vm.Alike.refl U.vm) qK, nw_same (u := U) (U := U.calling g mk a) rfl qN, qD⟩, va_recv hKc hPc (ci := 3) (q0 := 0) rfl rfl, fun U hU hW => ⟨rfl, by rw [hU], by rw [hU]; exact hPc, va_K.moved hW.alike hKc, nw_warm hW hN, hDc.weaken (fun _ _ _ _ => trivial)⟩⟩ rfl rfl hl.1 rfl (lv_room (Nat.le_of_ble_eq_true rfl)) dX3_findHalves_75 ⟨Nat.le_of_ble_eq_true rfl, Nat.le_of_ble_eq_true rfl⟩) hS (fun q _ h => hFc q h) hFc (fun rz u t H1 locs ht hvm hw hB1 hz1 hk1 hS => ?_)
                obtain ⟨f43, rfl⟩ : ∃ z, z = u := ⟨_, rfl⟩
                obtain ⟨hP1, hK1, hD1⟩ := hB1
                rw [ht] at hP1
                have hK1 := va_K.moved hvm.symm hK1
                obtain ⟨r44, rfl⟩ : ∃ z, z = rz := ⟨_, rfl⟩
                subst hw
                try dsimp only at h
                obtain ⟨hP, hD⟩ := va_join (wr := [(h0_roots, .inr (1, [.ref h0_roots_least, .int u17])), (h0_roots_least, .inl (k_t_roots_least, 10007, .inl f18)), (h1, .inr (0, [.int p0_p, .int p0_a, .int p0_b, .int p0_from, .int p0_kernelPoint, .int p0_kernelOrder, .int p0_points, .int p0_inner, .int p0_outer, .int p0_makersFound, .int p0_first, .int p0_second]))]) (w1 := [(h0, .inr (3, [.ref h0_roots, .ref h0_strides, .ref h0_halvesFound])), (h0_halvesFound, .inl (k_t_halvesFound, 4, .inl f43))]) hP hD [0, 2] [1, 3, 4] rfl rfl (by decide) (by decide) hk1 hFc hP1 hD1
                generalize H1 = H at hP hS ⊢
                have hP := hP.sub (ws' := [(h0, .inr (3, [.ref h0_roots, .ref h0_strides, .ref h0_halvesFound])), (h0_roots, .inr (1, [.ref h0_roots_least, .int u17])), (h0_halvesFound, .inl (k_t_halvesFound, 4, .inl f43)), (h0_roots_least, .inl (k_t_roots_least, 10007, .inl f18)), (h1, .inr (0, [.int p0_p, .int p0_a, .int p0_b, .int p0_from, .int p0_kernelPoint, .int p0_kernelOrder, .int p0_points, .int p0_inner, .int p0_outer, .int p0_makersFound, .int p0_first, .int p0_second]))]) [3, 0, 4, 1, 2] rfl
                have hD := hD.sub (ws' := [(h0, .inr (3, [.ref h0_roots, .ref h0_strides, .ref h0_halvesFound])), (h0_roots, .inr (1, [.ref h0_roots_least, .int u17])), (h0_halvesFound, .inl (k_t_halvesFound, 4, .inl f43)), (h0_roots_least, .inl (k_t_roots_least, 10007, .inl f18)), (h1, .inr (0, [.int p0_p, .int p0_a, .int p0_b, .int p0_from, .int p0_kernelPoint, .int p0_kernelOrder, .int p0_points, .int p0_inner, .int p0_outer, .int p0_makersFound, .int p0_first, .int p0_second]))]) [3, 0, 4, 1, 2] (by decide) rfl
                refine lv_istore_n (lv' := [(3, .int r44), (6, .int r20), (5, .int r19), (4, .int x3), (0, .ref h0), (1, .ref h1), (2, .int a1)]) hx hb dX3_findHalves_78 rfl hl (by decide) rfl (fun ls hl => ?_)
                refine lv_iload hx hb dX3_findHalves_79 (lv_at hl 1 rfl) ?_
                refine lv_iload hx hb dX3_findHalves_81 (lv_at hl 2 rfl) ?_
                refine lv_icmp_eq (tgt := 106) hx hb dX3_findHalves_83 (by decide) (fun c45 => ?_) (fun c45 => ?_)
                · replace h := (if_pos c45).symm.trans h
                  obtain ⟨v46, ev46⟩ : ∃ z : Int32, z = x3 + 1 := ⟨_, rfl⟩
                  refine lv_iinc (v := v46) (lv' := [(4, .int v46), (3, .int r44), (6, .int r20), (5, .int r19), (0, .ref h0), (1, .ref h1), (2, .int a1)]) hx hb dX3_findHalves_106 hl (k := 3) rfl (by rw [ev46]; rfl) (by decide) rfl (fun ls hl => ?_)
                  replace h := mi_use ev46 h
                  refine lv_goto (tgt := 17) hx hb dX3_findHalves_109 (by decide) ?_
                  exact ih _ _ _ _ _ _ (hA _ (Option.some.inj h).symm) hkE _ _ ls hP hD hS (lv_sub hl [1, 0, 4, 5, 6] rfl)
                · replace h := (if_neg c45).symm.trans h
                  refine lv_aload_n hx hb dX3_findHalves_86 rfl (lv_at hl 5 rfl) ?_
                  refine lv_iload hx hb dX3_findHalves_87 (lv_at hl 1 rfl) ?_
                  refine lv_iload hx hb dX3_findHalves_89 (lv_at hl 1 rfl) ?_
                  obtain ⟨r47, hr47, h⟩ := Option.bind_eq_some_iff.mp h
                  have hPc := hP.sub (ws' := [(h1, .inr (0, [.int p0_p, .int p0_a, .int p0_b, .int p0_from, .int p0_kernelPoint, .int p0_kernelOrder, .int p0_points, .int p0_inner, .int p0_outer, .int p0_makersFound, .int p0_first, .int p0_second]))]) [4] rfl
                  have hKc := hK.sub (tys' := []) [] rfl
                  refine vp_callSi (W.runV (As := [.int r20, .int r20]) (rest := []) ⟨hx, hb, hml, hown, hts⟩ (ctX0_sum l N dC dI  h1 p0_p p0_a p0_b p0_from p0_kernelPoint p0_kernelOrder p0_points p0_inner p0_outer p0_makersFound p0_first p0_second r20 r20 r47 hr47) (cwV 2 hts gX3_findHalves_X0_sum rfl rfl rfl (by decide +kernel) ⟨Nat.le_of_ble_eq_true rfl, Nat.le_of_ble_eq_true rfl⟩) ⟨fun a U g mk q => by obtain ⟨q0, qP, qK, qN⟩ := q; exact ⟨q0, qP, va_K.moved (u := U) (U := U.calling g mk a) (Vm.Alike.refl U.vm) qK, nw_same (u := U) (U := U.calling g mk a) rfl qN⟩, va_recv hKc hPc (ci := 0) (q0 := 0) rfl rfl, fun U hU hW => ⟨rfl, by rw [hU]; exact hPc, va_K.moved hW.alike hKc, nw_warm hW hN⟩⟩ rfl rfl hl.1 rfl (lv_room (Nat.le_of_ble_eq_true rfl)) dX3_findHalves_91 ⟨Nat.le_of_ble_eq_true rfl, Nat.le_of_ble_eq_true rfl⟩) (fun q9 eq9 => ?_)
                  subst q9
                  refine lv_iload_n hx hb dX3_findHalves_94 rfl (lv_at hl 6 rfl) ?_
                  refine lv_icmp_ne (tgt := 106) hx hb dX3_findHalves_95 (by decide) (fun c48 => ?_) (fun c48 => ?_)
                  · replace h := (if_neg c48).symm.trans h
                    obtain ⟨v49, ev49⟩ : ∃ z : Int32, z = x3 + 1 := ⟨_, rfl⟩
                    refine lv_iinc (v := v49) (lv' := [(4, .int v49), (3, .int r44), (6, .int r20), (5, .int r19), (0, .ref h0), (1, .ref h1), (2, .int a1)]) hx hb dX3_findHalves_106 hl (k := 3) rfl (by rw [ev49]; rfl) (by decide) rfl (fun ls hl => ?_)
                    replace h := mi_use ev49 h
                    refine lv_goto (tgt := 17) hx hb dX3_findHalves_109 (by decide) ?_
                    exact ih _ _ _ _ _ _ (hA _ (Option.some.inj h).symm) hkE _ _ ls hP hD hS (lv_sub hl [1, 0, 4, 5, 6] rfl)
                  · replace h := (if_pos c48).symm.trans h
                    refine lv_aload_n hx hb dX3_findHalves_98 rfl (lv_at hl 4 rfl) ?_
                    refine lv_iload hx hb dX3_findHalves_99 (lv_at hl 1 rfl) ?_
                    refine lv_iload_n hx hb dX3_findHalves_101 rfl (lv_at hl 0 rfl) ?_
                    obtain ⟨r50, hr50, h⟩ := Option.bind_eq_some_iff.mp h
                    have hPc := hP.sub (ws' := [(h0, .inr (3, [.ref h0_roots, .ref h0_strides, .ref h0_halvesFound])), (h0_halvesFound, .inl (k_t_halvesFound, 4, .inl f43))]) [0, 2] rfl
                    have hDc := hD.sub (ws' := [(h0, .inr (3, [.ref h0_roots, .ref h0_strides, .ref h0_halvesFound])), (h0_halvesFound, .inl (k_t_halvesFound, 4, .inl f43))]) [0, 2] (by decide) rfl
                    have hKc := hK.sub (tys' := [(k_t_halvesFound, .int)]) [0] rfl
                    have hFc := va_free (wc := [(h0, .inr (3, [.ref h0_roots, .ref h0_strides, .ref h0_halvesFound])), (h0_halvesFound, .inl (k_t_halvesFound, 4, .inl f43))]) hD hS hA0 [0, 2] rfl
                    refine va_calli (va_runV (As := [.int r20, .int r44]) (rest := []) ⟨hx, hb, hml, hown, hts⟩ (ctX3_keepHalf l N dC dI _ h0 h0_halvesFound h0_roots h0_strides k_t_halvesFound f43 r20 r44 r50 hr50) (cwV 2 hts gX3_findHalves_X3_keepHalf rfl rfl rfl (by decide +kernel) ⟨Nat.le_of_ble_eq_true rfl, Nat.le_of_ble_eq_true rfl⟩) ⟨fun a U g mk q => by obtain ⟨q0, q1, qP, qK, qN, qD⟩ := q; exact ⟨q0, q1, qP, va_K.moved (u := U) (U := U.calling g mk a) (Vm.Alike.refl U.vm) qK, nw_same (u := U) (U := U.calling g mk a) rfl qN, qD⟩, va_recv hKc hPc (ci := 3) (q0 := 0) rfl rfl, fun U hU hW => ⟨rfl, by rw [hU], by rw [hU]; exact hPc, va_K.moved hW.alike hKc, nw_warm hW hN, hDc.weaken (fun _ _ _ _ => trivial)⟩⟩ rfl rfl hl.1 rfl (lv_room (Nat.le_of_ble_eq_true rfl)) dX3_findHalves_102 ⟨Nat.le_of_ble_eq_true rfl, Nat.le_of_ble_eq_true rfl⟩) hS (fun q _ h => hFc q h) hFc (fun rz u t H1 locs ht hvm hw hB1 hz1 hk1 hS => ?_)
                    obtain ⟨f51, rfl⟩ : ∃ z, z = u := ⟨_, rfl⟩
                    obtain ⟨hP1, hK1, hD1⟩ := hB1
                    rw [ht] at hP1
                    have hK1 := va_K.moved hvm.symm hK1
                    obtain ⟨r52, rfl⟩ : ∃ z, z = rz := ⟨_, rfl⟩
                    subst hw
                    try dsimp only at h
                    obtain ⟨hP, hD⟩ := va_join (wr := [(h0_roots, .inr (1, [.ref h0_roots_least, .int u17])), (h0_roots_least, .inl (k_t_roots_least, 10007, .inl f18)), (h1, .inr (0, [.int p0_p, .int p0_a, .int p0_b, .int p0_from, .int p0_kernelPoint, .int p0_kernelOrder, .int p0_points, .int p0_inner, .int p0_outer, .int p0_makersFound, .int p0_first, .int p0_second]))]) (w1 := [(h0, .inr (3, [.ref h0_roots, .ref h0_strides, .ref h0_halvesFound])), (h0_halvesFound, .inl (k_t_halvesFound, 4, .inl f51))]) hP hD [0, 2] [1, 3, 4] rfl rfl (by decide) (by decide) hk1 hFc hP1 hD1
                    generalize H1 = H at hP hS ⊢
                    have hP := hP.sub (ws' := [(h0, .inr (3, [.ref h0_roots, .ref h0_strides, .ref h0_halvesFound])), (h0_roots, .inr (1, [.ref h0_roots_least, .int u17])), (h0_halvesFound, .inl (k_t_halvesFound, 4, .inl f51)), (h0_roots_least, .inl (k_t_roots_least, 10007, .inl f18)), (h1, .inr (0, [.int p0_p, .int p0_a, .int p0_b, .int p0_from, .int p0_kernelPoint, .int p0_kernelOrder, .int p0_points, .int p0_inner, .int p0_outer, .int p0_makersFound, .int p0_first, .int p0_second]))]) [3, 0, 4, 1, 2] rfl
                    have hD := hD.sub (ws' := [(h0, .inr (3, [.ref h0_roots, .ref h0_strides, .ref h0_halvesFound])), (h0_roots, .inr (1, [.ref h0_roots_least, .int u17])), (h0_halvesFound, .inl (k_t_halvesFound, 4, .inl f51)), (h0_roots_least, .inl (k_t_roots_least, 10007, .inl f18)), (h1, .inr (0, [.int p0_p, .int p0_a, .int p0_b, .int p0_from, .int p0_kernelPoint, .int p0_kernelOrder, .int p0_points, .int p0_inner, .int p0_outer, .int p0_makersFound, .int p0_first, .int p0_second]))]) [3, 0, 4, 1, 2] (by decide) rfl
                    refine lv_istore_n (lv' := [(3, .int r52), (6, .int r20), (5, .int r19), (4, .int x3), (0, .ref h0), (1, .ref h1), (2, .int a1)]) hx hb dX3_findHalves_105 rfl hl (by decide) rfl (fun ls hl => ?_)
                    obtain ⟨v53, ev53⟩ : ∃ z : Int32, z = x3 + 1 := ⟨_, rfl⟩
                    refine lv_iinc (v := v53) (lv' := [(4, .int v53), (3, .int r52), (6, .int r20), (5, .int r19), (0, .ref h0), (1, .ref h1), (2, .int a1)]) hx hb dX3_findHalves_106 hl (k := 3) rfl (by rw [ev53]; rfl) (by decide) rfl (fun ls hl => ?_)
                    replace h := mi_use ev53 h
                    refine lv_goto (tgt := 17) hx hb dX3_findHalves_109 (by decide) ?_
                    exact ih _ _ _ _ _ _ (hA _ (Option.some.inj h).symm) hkE _ _ ls hP hD hS (lv_sub hl [1, 0, 4, 5, 6] rfl)
    obtain ⟨o54, ho54, h⟩ := Option.bind_eq_some_iff.mp h
    refine L17 N _ _ _ _ _ o54 ho54 ?_ _ _ ls hP hD hS (lv_sub hl [1, 0, 2, 3, 4] rfl)
    intro y7 y8 y9 y10 y11 eo H locs ls hP hD hS hl
    subst eo
    try dsimp only at h
    refine lv_iload_n hx hb dX3_findHalves_112 rfl (lv_at hl 0 rfl) ?_
    have hv : (y7, y9, y10, y11) = rr := Option.some.inj h
    have hP9 := hP.sub (ws' := [(h0, .inr (3, [.ref h0_roots, .ref h0_strides, .ref h0_halvesFound])), (h0_roots, .inr (1, [.ref h0_roots_least, .int y9])), (h0_halvesFound, .inl (k_t_halvesFound, 4, .inl y10)), (h0_roots_least, .inl (k_t_roots_least, 10007, .inl y11)), (h1, .inr (0, [.int p0_p, .int p0_a, .int p0_b, .int p0_from, .int p0_kernelPoint, .int p0_kernelOrder, .int p0_points, .int p0_inner, .int p0_outer, .int p0_makersFound, .int p0_first, .int p0_second]))]) [0, 1, 2, 3, 4] rfl
    have hD9 := hD.sub (ws' := [(h0, .inr (3, [.ref h0_roots, .ref h0_strides, .ref h0_halvesFound])), (h0_roots, .inr (1, [.ref h0_roots_least, .int y9])), (h0_halvesFound, .inl (k_t_halvesFound, 4, .inl y10)), (h0_roots_least, .inl (k_t_roots_least, 10007, .inl y11)), (h1, .inr (0, [.int p0_p, .int p0_a, .int p0_b, .int p0_from, .int p0_kernelPoint, .int p0_kernelOrder, .int p0_points, .int p0_inner, .int p0_outer, .int p0_makersFound, .int p0_first, .int p0_second]))]) [0, 1, 2, 3, 4] (by decide) rfl
    have hK9 := hK.sub (tys' := [(k_t_halvesFound, .int), (k_t_roots_least, .int)]) [0, 1] rfl
    exact W.iret (v := y7) hx hb hr (fun t ht hW => ⟨⟨y7, (y9, y10, y11), rfl, hv, by rw [ht]; exact hP9, va_K.moved hW.alike hK9, hD9⟩, hS.F ht⟩) hS.2.2 dX3_findHalves_113
  · replace h := (if_pos c1).symm.trans h
    refine lv_aload_n hx hb dX3_findHalves_7 rfl (lv_at hl 1 rfl) ?_
    refine lv_iconst (v := (-1)) hx hb dX3_findHalves_8 (by decide) ?_
    refine lv_iload_n hx hb dX3_findHalves_9 rfl (lv_at hl 0 rfl) ?_
    obtain ⟨r55, hr55, h⟩ := Option.bind_eq_some_iff.mp h
    have hPc := hP.sub (ws' := [(h0, .inr (3, [.ref h0_roots, .ref h0_strides, .ref h0_halvesFound])), (h0_halvesFound, .inl (k_t_halvesFound, 4, .inl t_halvesFound))]) [0, 2] rfl
    have hDc := hD.sub (ws' := [(h0, .inr (3, [.ref h0_roots, .ref h0_strides, .ref h0_halvesFound])), (h0_halvesFound, .inl (k_t_halvesFound, 4, .inl t_halvesFound))]) [0, 2] (by decide) rfl
    have hKc := hK.sub (tys' := [(k_t_halvesFound, .int)]) [0] rfl
    have hFc := va_free (wc := [(h0, .inr (3, [.ref h0_roots, .ref h0_strides, .ref h0_halvesFound])), (h0_halvesFound, .inl (k_t_halvesFound, 4, .inl t_halvesFound))]) hD hS hA0 [0, 2] rfl
    refine va_calli (va_runV (As := [.int (-1), .int 0]) (rest := []) ⟨hx, hb, hml, hown, hts⟩ (ctX3_keepHalf l N dC dI _ h0 h0_halvesFound h0_roots h0_strides k_t_halvesFound t_halvesFound (-1) 0 r55 hr55) (cwV 2 hts gX3_findHalves_X3_keepHalf rfl rfl rfl (by decide +kernel) ⟨Nat.le_of_ble_eq_true rfl, Nat.le_of_ble_eq_true rfl⟩) ⟨fun a U g mk q => by obtain ⟨q0, q1, qP, qK, qN, qD⟩ := q; exact ⟨q0, q1, qP, va_K.moved (u := U) (U := U.calling g mk a) (Vm.Alike.refl U.vm) qK, nw_same (u := U) (U := U.calling g mk a) rfl qN, qD⟩, va_recv hKc hPc (ci := 3) (q0 := 0) rfl rfl, fun U hU hW => ⟨rfl, by rw [hU], by rw [hU]; exact hPc, va_K.moved hW.alike hKc, nw_warm hW hN, hDc.weaken (fun _ _ _ _ => trivial)⟩⟩ rfl rfl hl.1 rfl (lv_room (Nat.le_of_ble_eq_true rfl)) dX3_findHalves_10 ⟨Nat.le_of_ble_eq_true rfl, Nat.le_of_ble_eq_true rfl⟩) hS (fun q _ h => hFc q h) hFc (fun rz u t H1 locs ht hvm hw hB1 hz1 hk1 hS => ?_)
    obtain ⟨f56, rfl⟩ : ∃ z, z = u := ⟨_, rfl⟩
    obtain ⟨hP1, hK1, hD1⟩ := hB1
    rw [ht] at hP1
    have hK1 := va_K.moved hvm.symm hK1
    obtain ⟨r57, rfl⟩ : ∃ z, z = rz := ⟨_, rfl⟩
    subst hw
    try dsimp only at h
    obtain ⟨hP, hD⟩ := va_join (wr := [(h0_roots, .inr (1, [.ref h0_roots_least, .int t_roots_prime])), (h0_roots_least, .inl (k_t_roots_least, 10007, .inl t_roots_least)), (h1, .inr (0, [.int p0_p, .int p0_a, .int p0_b, .int p0_from, .int p0_kernelPoint, .int p0_kernelOrder, .int p0_points, .int p0_inner, .int p0_outer, .int p0_makersFound, .int p0_first, .int p0_second]))]) (w1 := [(h0, .inr (3, [.ref h0_roots, .ref h0_strides, .ref h0_halvesFound])), (h0_halvesFound, .inl (k_t_halvesFound, 4, .inl f56))]) hP hD [0, 2] [1, 3, 4] rfl rfl (by decide) (by decide) hk1 hFc hP1 hD1
    generalize H1 = H at hP hS ⊢
    have hP := hP.sub (ws' := [(h0, .inr (3, [.ref h0_roots, .ref h0_strides, .ref h0_halvesFound])), (h0_roots, .inr (1, [.ref h0_roots_least, .int t_roots_prime])), (h0_halvesFound, .inl (k_t_halvesFound, 4, .inl f56)), (h0_roots_least, .inl (k_t_roots_least, 10007, .inl t_roots_least)), (h1, .inr (0, [.int p0_p, .int p0_a, .int p0_b, .int p0_from, .int p0_kernelPoint, .int p0_kernelOrder, .int p0_points, .int p0_inner, .int p0_outer, .int p0_makersFound, .int p0_first, .int p0_second]))]) [3, 0, 4, 1, 2] rfl
    have hD := hD.sub (ws' := [(h0, .inr (3, [.ref h0_roots, .ref h0_strides, .ref h0_halvesFound])), (h0_roots, .inr (1, [.ref h0_roots_least, .int t_roots_prime])), (h0_halvesFound, .inl (k_t_halvesFound, 4, .inl f56)), (h0_roots_least, .inl (k_t_roots_least, 10007, .inl t_roots_least)), (h1, .inr (0, [.int p0_p, .int p0_a, .int p0_b, .int p0_from, .int p0_kernelPoint, .int p0_kernelOrder, .int p0_points, .int p0_inner, .int p0_outer, .int p0_makersFound, .int p0_first, .int p0_second]))]) [3, 0, 4, 1, 2] (by decide) rfl
    refine lv_istore_n (lv' := [(3, .int r57), (0, .ref h0), (1, .ref h1), (2, .int a1)]) hx hb dX3_findHalves_13 rfl hl (by decide) rfl (fun ls hl => ?_)
    refine lv_iconst (v := 0) hx hb dX3_findHalves_14 (by decide) ?_
    refine lv_istore (lv' := [(4, .int 0), (3, .int r57), (0, .ref h0), (1, .ref h1), (2, .int a1)]) hx hb dX3_findHalves_15 hl (by decide) rfl (fun ls hl => ?_)
    have L17 : ∀ (n : Nat) (x58 : Int32) (x59 : Int32) (x60 : Int32) (x61 : Nat → Int32) (x62 : Nat → Int32) (o : Int32 × Int32 × Int32 × (Nat → Int32) × (Nat → Int32)), mi_run (mX3_findHalves_b17 N p0_p p0_a p0_b a1) n (x58, x59, x60, x61, x62) = some o → (∀ (y63 : Int32) (y64 : Int32) (y65 : Int32) (y66 : Nat → Int32) (y67 : Nat → Int32), o = (y63, y64, y65, y66, y67) → ∀ (H : Heap) (locs : List Loc) (ls : Array Slot), va_P (dC, dI) vwCl [(h0, .inr (3, [.ref h0_roots, .ref h0_strides, .ref h0_halvesFound])), (h0_roots, .inr (1, [.ref h0_roots_least, .int y65])), (h0_halvesFound, .inl (k_t_halvesFound, 4, .inl y66)), (h0_roots_least, .inl (k_t_roots_least, 10007, .inl y67)), (h1, .inr (0, [.int p0_p, .int p0_a, .int p0_b, .int p0_from, .int p0_kernelPoint, .int p0_kernelOrder, .int p0_points, .int p0_inner, .int p0_outer, .int p0_makersFound, .int p0_first, .int p0_second]))] H → va_D A [(h0, .inr (3, [.ref h0_roots, .ref h0_strides, .ref h0_halvesFound])), (h0_roots, .inr (1, [.ref h0_roots_least, .int y65])), (h0_halvesFound, .inl (k_t_halvesFound, 4, .inl y66)), (h0_roots_least, .inl (k_t_roots_least, 10007, .inl y67)), (h1, .inr (0, [.int p0_p, .int p0_a, .int p0_b, .int p0_from, .int p0_kernelPoint, .int p0_kernelOrder, .int p0_points, .int p0_inner, .int p0_outer, .int p0_makersFound, .int p0_first, .int p0_second]))] → va_S A s.heap H locs → lv_has ls 7 [(3, .int y63), (4, .int y64), (0, .ref h0), (1, .ref h1), (2, .int a1)] → W p l e (headSpec wsX3_findHalves rmX3_findHalves).room s m (([.ref h0, .ref h1, .int a1] : List Value).toArray) below meth c H locs 0 0 (MQ below (va_Qi (fun (r : Int32) (u : Int32 × (Nat → Int32) × (Nat → Int32)) => (r, u) = rr) (fun (u : Int32 × (Nat → Int32) × (Nat → Int32)) t => match u with | (u0, u1, u2) => va_P (dC, dI) vwCl [(h0, .inr (3, [.ref h0_roots, .ref h0_strides, .ref h0_halvesFound])), (h0_roots, .inr (1, [.ref h0_roots_least, .int u0])), (h0_halvesFound, .inl (k_t_halvesFound, 4, .inl u1)), (h0_roots_least, .inl (k_t_roots_least, 10007, .inl u2)), (h1, .inr (0, [.int p0_p, .int p0_a, .int p0_b, .int p0_from, .int p0_kernelPoint, .int p0_kernelOrder, .int p0_points, .int p0_inner, .int p0_outer, .int p0_makersFound, .int p0_first, .int p0_second]))] t.heap ∧ va_K (dC, dI) vwCl [(k_t_halvesFound, .int), (k_t_roots_least, .int)] t ∧ va_D (A) [(h0, .inr (3, [.ref h0_roots, .ref h0_strides, .ref h0_halvesFound])), (h0_roots, .inr (1, [.ref h0_roots_least, .int u0])), (h0_halvesFound, .inl (k_t_halvesFound, 4, .inl u1)), (h0_roots_least, .inl (k_t_roots_least, 10007, .inl u2)), (h1, .inr (0, [.int p0_p, .int p0_a, .int p0_b, .int p0_from, .int p0_kernelPoint, .int p0_kernelOrder, .int p0_points, .int p0_inner, .int p0_outer, .int p0_makersFound, .int p0_first, .int p0_second]))]) (A)) (([.ref h0, .ref h1, .int a1] : List Value).toArray) s 0 0 A) (F0 m 112 ls [])) → ∀ (H : Heap) (locs : List Loc) (ls : Array Slot), va_P (dC, dI) vwCl [(h0, .inr (3, [.ref h0_roots, .ref h0_strides, .ref h0_halvesFound])), (h0_roots, .inr (1, [.ref h0_roots_least, .int x60])), (h0_halvesFound, .inl (k_t_halvesFound, 4, .inl x61)), (h0_roots_least, .inl (k_t_roots_least, 10007, .inl x62)), (h1, .inr (0, [.int p0_p, .int p0_a, .int p0_b, .int p0_from, .int p0_kernelPoint, .int p0_kernelOrder, .int p0_points, .int p0_inner, .int p0_outer, .int p0_makersFound, .int p0_first, .int p0_second]))] H → va_D A [(h0, .inr (3, [.ref h0_roots, .ref h0_strides, .ref h0_halvesFound])), (h0_roots, .inr (1, [.ref h0_roots_least, .int x60])), (h0_halvesFound, .inl (k_t_halvesFound, 4, .inl x61)), (h0_roots_least, .inl (k_t_roots_least, 10007, .inl x62)), (h1, .inr (0, [.int p0_p, .int p0_a, .int p0_b, .int p0_from, .int p0_kernelPoint, .int p0_kernelOrder, .int p0_points, .int p0_inner, .int p0_outer, .int p0_makersFound, .int p0_first, .int p0_second]))] → va_S A s.heap H locs → lv_has ls 7 [(3, .int x58), (4, .int x59), (0, .ref h0), (1, .ref h1), (2, .int a1)] → W p l e (headSpec wsX3_findHalves rmX3_findHalves).room s m (([.ref h0, .ref h1, .int a1] : List Value).toArray) below meth c H locs 0 0 (MQ below (va_Qi (fun (r : Int32) (u : Int32 × (Nat → Int32) × (Nat → Int32)) => (r, u) = rr) (fun (u : Int32 × (Nat → Int32) × (Nat → Int32)) t => match u with | (u0, u1, u2) => va_P (dC, dI) vwCl [(h0, .inr (3, [.ref h0_roots, .ref h0_strides, .ref h0_halvesFound])), (h0_roots, .inr (1, [.ref h0_roots_least, .int u0])), (h0_halvesFound, .inl (k_t_halvesFound, 4, .inl u1)), (h0_roots_least, .inl (k_t_roots_least, 10007, .inl u2)), (h1, .inr (0, [.int p0_p, .int p0_a, .int p0_b, .int p0_from, .int p0_kernelPoint, .int p0_kernelOrder, .int p0_points, .int p0_inner, .int p0_outer, .int p0_makersFound, .int p0_first, .int p0_second]))] t.heap ∧ va_K (dC, dI) vwCl [(k_t_halvesFound, .int), (k_t_roots_least, .int)] t ∧ va_D (A) [(h0, .inr (3, [.ref h0_roots, .ref h0_strides, .ref h0_halvesFound])), (h0_roots, .inr (1, [.ref h0_roots_least, .int u0])), (h0_halvesFound, .inl (k_t_halvesFound, 4, .inl u1)), (h0_roots_least, .inl (k_t_roots_least, 10007, .inl u2)), (h1, .inr (0, [.int p0_p, .int p0_a, .int p0_b, .int p0_from, .int p0_kernelPoint, .int p0_kernelOrder, .int p0_points, .int p0_inner, .int p0_outer, .int p0_makersFound, .int p0_first, .int p0_second]))]) (A)) (([.ref h0, .ref h1, .int a1] : List Value).toArray) s 0 0 A) (F0 m 17 ls []) := by
      intro n
      induction n with
      | zero => intro x58 x59 x60 x61 x62 o h; exact absurd h (mi_run_0 _ _ _)
      | succ n ih =>
        intro x58 x59 x60 x61 x62 o h hkE H locs ls hP hD hS hl
        obtain ⟨w, h, hA, hB⟩ := mi_run_s h
        dsimp only [mX3_findHalves_b17] at h
        refine lv_iload hx hb dX3_findHalves_17 (lv_at hl 1 rfl) ?_
        refine lv_aload_n hx hb dX3_findHalves_19 rfl (lv_at hl 3 rfl) ?_
        refine va_get (D := (dC, dI)) (ci := 0) (v := .int p0_p) (C := RX0) (T := TX0) (N := 12) hx hb hts (by decide +kernel) hown hK hP 4 rfl rfl 0 (by decide) (hts (.fieldLink RX3 39 "PointRings$Curve" "p" "I") (by decide +kernel)) (fun _ h9 => h9) rfl dX3_findHalves_20 ?_
        refine lv_icmp_ge (tgt := 112) hx hb dX3_findHalves_23 (by decide) (fun c68 => ?_) (fun c68 => ?_)
        · replace h := (if_pos c68).symm.trans h
          exact hkE _ _ _ _ _ (hB _ (Option.some.inj h).symm) _ _ ls hP hD hS (lv_sub hl [0, 1, 2, 3, 4] rfl)
        · replace h := (if_neg c68).symm.trans h
          refine lv_aload_n hx hb dX3_findHalves_26 rfl (lv_at hl 3 rfl) ?_
          refine lv_iload hx hb dX3_findHalves_27 (lv_at hl 1 rfl) ?_
          refine lv_iload_n hx hb dX3_findHalves_29 rfl (lv_at hl 4 rfl) ?_
          obtain ⟨r69, hr69, h⟩ := Option.bind_eq_some_iff.mp h
          have hPc := hP.sub (ws' := [(h1, .inr (0, [.int p0_p, .int p0_a, .int p0_b, .int p0_from, .int p0_kernelPoint, .int p0_kernelOrder, .int p0_points, .int p0_inner, .int p0_outer, .int p0_makersFound, .int p0_first, .int p0_second]))]) [4] rfl
          have hKc := hK.sub (tys' := []) [] rfl
          refine vp_callSi (W.runS (As := [.ref h1, .int x59, .int a1]) (rest := []) ⟨hx, hb, hml, hown, hts⟩ (ctX3_mayHalve l N dC dI  h1 p0_p p0_a p0_b p0_from p0_kernelPoint p0_kernelOrder p0_points p0_inner p0_outer p0_makersFound p0_first p0_second x59 a1 r69 hr69) (va_cwS 3 hts gX3_findHalves_X3_mayHalve rfl rfl rfl (by decide +kernel) ⟨Nat.le_of_ble_eq_true rfl, Nat.le_of_ble_eq_true rfl⟩) ⟨fun a U g mk q => by obtain ⟨q0, qP, qK, qN⟩ := q; exact ⟨q0, qP, va_K.moved (u := U) (U := U.calling g mk a) (Vm.Alike.refl U.vm) qK, nw_same (u := U) (U := U.calling g mk a) rfl qN⟩, fun U hU hW => ⟨rfl, by rw [hU]; exact hPc, va_K.moved hW.alike hKc, nw_warm hW hN⟩⟩ rfl rfl hl.1 rfl (lv_room (Nat.le_of_ble_eq_true rfl)) dX3_findHalves_30 ⟨Nat.le_of_ble_eq_true rfl, Nat.le_of_ble_eq_true rfl⟩) (fun q9 eq9 => ?_)
          subst q9
          refine lv_if_eq (tgt := 106) hx hb dX3_findHalves_33 (by decide) (fun c70 => ?_) (fun c70 => ?_)
          · replace h := (if_pos c70).symm.trans h
            obtain ⟨v71, ev71⟩ : ∃ z : Int32, z = x59 + 1 := ⟨_, rfl⟩
            refine lv_iinc (v := v71) (lv' := [(4, .int v71), (3, .int x58), (0, .ref h0), (1, .ref h1), (2, .int a1)]) hx hb dX3_findHalves_106 hl (k := 1) rfl (by rw [ev71]; rfl) (by decide) rfl (fun ls hl => ?_)
            replace h := mi_use ev71 h
            refine lv_goto (tgt := 17) hx hb dX3_findHalves_109 (by decide) ?_
            exact ih _ _ _ _ _ _ (hA _ (Option.some.inj h).symm) hkE _ _ ls hP hD hS (lv_sub hl [1, 0, 2, 3, 4] rfl)
          · replace h := (if_neg c70).symm.trans h
            refine lv_aload_n hx hb dX3_findHalves_36 rfl (lv_at hl 2 rfl) ?_
            refine lv_aload_n hx hb dX3_findHalves_37 rfl (lv_at hl 3 rfl) ?_
            refine lv_iload hx hb dX3_findHalves_38 (lv_at hl 1 rfl) ?_
            obtain ⟨r72, hr72, h⟩ := Option.bind_eq_some_iff.mp h
            have hPc := hP.sub (ws' := [(h0, .inr (3, [.ref h0_roots, .ref h0_strides, .ref h0_halvesFound])), (h0_roots, .inr (1, [.ref h0_roots_least, .int x60])), (h0_roots_least, .inl (k_t_roots_least, 10007, .inl x62)), (h1, .inr (0, [.int p0_p, .int p0_a, .int p0_b, .int p0_from, .int p0_kernelPoint, .int p0_kernelOrder, .int p0_points, .int p0_inner, .int p0_outer, .int p0_makersFound, .int p0_first, .int p0_second]))]) [0, 1, 3, 4] rfl
            have hDc := hD.sub (ws' := [(h0, .inr (3, [.ref h0_roots, .ref h0_strides, .ref h0_halvesFound])), (h0_roots, .inr (1, [.ref h0_roots_least, .int x60])), (h0_roots_least, .inl (k_t_roots_least, 10007, .inl x62)), (h1, .inr (0, [.int p0_p, .int p0_a, .int p0_b, .int p0_from, .int p0_kernelPoint, .int p0_kernelOrder, .int p0_points, .int p0_inner, .int p0_outer, .int p0_makersFound, .int p0_first, .int p0_second]))]) [0, 1, 3, 4] (by decide) rfl
            have hKc := hK.sub (tys' := [(k_t_roots_least, .int)]) [1] rfl
            have hFc := va_free (wc := [(h0, .inr (3, [.ref h0_roots, .ref h0_strides, .ref h0_halvesFound])), (h0_roots, .inr (1, [.ref h0_roots_least, .int x60])), (h0_roots_least, .inl (k_t_roots_least, 10007, .inl x62)), (h1, .inr (0, [.int p0_p, .int p0_a, .int p0_b, .int p0_from, .int p0_kernelPoint, .int p0_kernelOrder, .int p0_points, .int p0_inner, .int p0_outer, .int p0_makersFound, .int p0_first, .int p0_second]))]) hD hS hA0 [0, 1, 3, 4] rfl
            refine va_calli (va_runV (As := [.ref h1, .int x59]) (rest := []) ⟨hx, hb, hml, hown, hts⟩ (ctX3_lesserAt l N dC dI _ h0 h0_roots h0_roots_least h1 h0_strides h0_halvesFound k_t_roots_least x60 x62 p0_p p0_a p0_b p0_from p0_kernelPoint p0_kernelOrder p0_points p0_inner p0_outer p0_makersFound p0_first p0_second x59 r72 hr72) (cwV 2 hts gX3_findHalves_X3_lesserAt rfl rfl rfl (by decide +kernel) ⟨Nat.le_of_ble_eq_true rfl, Nat.le_of_ble_eq_true rfl⟩) ⟨fun a U g mk q => by obtain ⟨q0, q1, qP, qK, qN, qD⟩ := q; exact ⟨q0, q1, qP, va_K.moved (u := U) (U := U.calling g mk a) (Vm.Alike.refl U.vm) qK, nw_same (u := U) (U := U.calling g mk a) rfl qN, qD⟩, va_recv hKc hPc (ci := 3) (q0 := 0) rfl rfl, fun U hU hW => ⟨rfl, by rw [hU], by rw [hU]; exact hPc, va_K.moved hW.alike hKc, nw_warm hW hN, hDc.weaken (fun _ _ _ _ => trivial)⟩⟩ rfl rfl hl.1 rfl (lv_room (Nat.le_of_ble_eq_true rfl)) dX3_findHalves_40 ⟨Nat.le_of_ble_eq_true rfl, Nat.le_of_ble_eq_true rfl⟩) hS (fun q _ h => hFc q h) hFc (fun rz u t H1 locs ht hvm hw hB1 hz1 hk1 hS => ?_)
            obtain ⟨u73, f74⟩ := u
            obtain ⟨hP1, hK1, hD1⟩ := hB1
            rw [ht] at hP1
            have hK1 := va_K.moved hvm.symm hK1
            obtain ⟨r75, rfl⟩ : ∃ z, z = rz := ⟨_, rfl⟩
            subst hw
            try dsimp only at h
            obtain ⟨hP, hD⟩ := va_join (wr := [(h0_halvesFound, .inl (k_t_halvesFound, 4, .inl x61))]) (w1 := [(h0, .inr (3, [.ref h0_roots, .ref h0_strides, .ref h0_halvesFound])), (h0_roots, .inr (1, [.ref h0_roots_least, .int u73])), (h0_roots_least, .inl (k_t_roots_least, 10007, .inl f74)), (h1, .inr (0, [.int p0_p, .int p0_a, .int p0_b, .int p0_from, .int p0_kernelPoint, .int p0_kernelOrder, .int p0_points, .int p0_inner, .int p0_outer, .int p0_makersFound, .int p0_first, .int p0_second]))]) hP hD [0, 1, 3, 4] [2] rfl rfl (by decide) (by decide) hk1 hFc hP1 hD1
            generalize H1 = H at hP hS ⊢
            have hP := hP.sub (ws' := [(h0, .inr (3, [.ref h0_roots, .ref h0_strides, .ref h0_halvesFound])), (h0_roots, .inr (1, [.ref h0_roots_least, .int u73])), (h0_halvesFound, .inl (k_t_halvesFound, 4, .inl x61)), (h0_roots_least, .inl (k_t_roots_least, 10007, .inl f74)), (h1, .inr (0, [.int p0_p, .int p0_a, .int p0_b, .int p0_from, .int p0_kernelPoint, .int p0_kernelOrder, .int p0_points, .int p0_inner, .int p0_outer, .int p0_makersFound, .int p0_first, .int p0_second]))]) [1, 2, 0, 3, 4] rfl
            have hD := hD.sub (ws' := [(h0, .inr (3, [.ref h0_roots, .ref h0_strides, .ref h0_halvesFound])), (h0_roots, .inr (1, [.ref h0_roots_least, .int u73])), (h0_halvesFound, .inl (k_t_halvesFound, 4, .inl x61)), (h0_roots_least, .inl (k_t_roots_least, 10007, .inl f74)), (h1, .inr (0, [.int p0_p, .int p0_a, .int p0_b, .int p0_from, .int p0_kernelPoint, .int p0_kernelOrder, .int p0_points, .int p0_inner, .int p0_outer, .int p0_makersFound, .int p0_first, .int p0_second]))]) [1, 2, 0, 3, 4] (by decide) rfl
            refine lv_istore (lv' := [(5, .int r75), (3, .int x58), (4, .int x59), (0, .ref h0), (1, .ref h1), (2, .int a1)]) hx hb dX3_findHalves_43 hl (by decide) rfl (fun ls hl => ?_)
            refine lv_aload_n hx hb dX3_findHalves_45 rfl (lv_at hl 4 rfl) ?_
            refine lv_iload hx hb dX3_findHalves_46 (lv_at hl 0 rfl) ?_
            obtain ⟨r76, hr76, h⟩ := Option.bind_eq_some_iff.mp h
            have hPc := hP.sub (ws' := [(h1, .inr (0, [.int p0_p, .int p0_a, .int p0_b, .int p0_from, .int p0_kernelPoint, .int p0_kernelOrder, .int p0_points, .int p0_inner, .int p0_outer, .int p0_makersFound, .int p0_first, .int p0_second]))]) [4] rfl
            have hKc := hK.sub (tys' := []) [] rfl
            refine vp_callSi (W.runV (As := [.int r75]) (rest := []) ⟨hx, hb, hml, hown, hts⟩ (ctX0_opposite l N dC dI  h1 p0_p p0_a p0_b p0_from p0_kernelPoint p0_kernelOrder p0_points p0_inner p0_outer p0_makersFound p0_first p0_second r75 r76 hr76) (cwV 1 hts gX3_findHalves_X0_opposite rfl rfl rfl (by decide +kernel) ⟨Nat.le_of_ble_eq_true rfl, Nat.le_of_ble_eq_true rfl⟩) ⟨fun a U g mk q => by obtain ⟨q0, qP, qK, qN⟩ := q; exact ⟨q0, qP, va_K.moved (u := U) (U := U.calling g mk a) (Vm.Alike.refl U.vm) qK, nw_same (u := U) (U := U.calling g mk a) rfl qN⟩, va_recv hKc hPc (ci := 0) (q0 := 0) rfl rfl, fun U hU hW => ⟨rfl, by rw [hU]; exact hPc, va_K.moved hW.alike hKc, nw_warm hW hN⟩⟩ rfl rfl hl.1 rfl (lv_room (Nat.le_of_ble_eq_true rfl)) dX3_findHalves_48 ⟨Nat.le_of_ble_eq_true rfl, Nat.le_of_ble_eq_true rfl⟩) (fun q9 eq9 => ?_)
            subst q9
            refine lv_istore (lv' := [(6, .int r76), (5, .int r75), (3, .int x58), (4, .int x59), (0, .ref h0), (1, .ref h1), (2, .int a1)]) hx hb dX3_findHalves_51 hl (by decide) rfl (fun ls hl => ?_)
            refine lv_iload hx hb dX3_findHalves_53 (lv_at hl 1 rfl) ?_
            refine lv_iconst (v := (-1)) hx hb dX3_findHalves_55 (by decide) ?_
            refine lv_icmp_eq (tgt := 79) hx hb dX3_findHalves_56 (by decide) (fun c77 => ?_) (fun c77 => ?_)
            · replace h := (if_pos c77).symm.trans h
              refine lv_iload hx hb dX3_findHalves_79 (lv_at hl 0 rfl) ?_
              refine lv_iload hx hb dX3_findHalves_81 (lv_at hl 1 rfl) ?_
              refine lv_icmp_eq (tgt := 106) hx hb dX3_findHalves_83 (by decide) (fun c78 => ?_) (fun c78 => ?_)
              · replace h := (if_pos c78).symm.trans h
                obtain ⟨v79, ev79⟩ : ∃ z : Int32, z = x59 + 1 := ⟨_, rfl⟩
                refine lv_iinc (v := v79) (lv' := [(4, .int v79), (6, .int r76), (5, .int r75), (3, .int x58), (0, .ref h0), (1, .ref h1), (2, .int a1)]) hx hb dX3_findHalves_106 hl (k := 3) rfl (by rw [ev79]; rfl) (by decide) rfl (fun ls hl => ?_)
                replace h := mi_use ev79 h
                refine lv_goto (tgt := 17) hx hb dX3_findHalves_109 (by decide) ?_
                exact ih _ _ _ _ _ _ (hA _ (Option.some.inj h).symm) hkE _ _ ls hP hD hS (lv_sub hl [3, 0, 4, 5, 6] rfl)
              · replace h := (if_neg c78).symm.trans h
                refine lv_aload_n hx hb dX3_findHalves_86 rfl (lv_at hl 5 rfl) ?_
                refine lv_iload hx hb dX3_findHalves_87 (lv_at hl 0 rfl) ?_
                refine lv_iload hx hb dX3_findHalves_89 (lv_at hl 0 rfl) ?_
                obtain ⟨r80, hr80, h⟩ := Option.bind_eq_some_iff.mp h
                have hPc := hP.sub (ws' := [(h1, .inr (0, [.int p0_p, .int p0_a, .int p0_b, .int p0_from, .int p0_kernelPoint, .int p0_kernelOrder, .int p0_points, .int p0_inner, .int p0_outer, .int p0_makersFound, .int p0_first, .int p0_second]))]) [4] rfl
                have hKc := hK.sub (tys' := []) [] rfl
                refine vp_callSi (W.runV (As := [.int r76, .int r76]) (rest := []) ⟨hx, hb, hml, hown, hts⟩ (ctX0_sum l N dC dI  h1 p0_p p0_a p0_b p0_from p0_kernelPoint p0_kernelOrder p0_points p0_inner p0_outer p0_makersFound p0_first p0_second r76 r76 r80 hr80) (cwV 2 hts gX3_findHalves_X0_sum rfl rfl rfl (by decide +kernel) ⟨Nat.le_of_ble_eq_true rfl, Nat.le_of_ble_eq_true rfl⟩) ⟨fun a U g mk q => by obtain ⟨q0, qP, qK, qN⟩ := q; exact ⟨q0, qP, va_K.moved (u := U) (U := U.calling g mk a) (Vm.Alike.refl U.vm) qK, nw_same (u := U) (U := U.calling g mk a) rfl qN⟩, va_recv hKc hPc (ci := 0) (q0 := 0) rfl rfl, fun U hU hW => ⟨rfl, by rw [hU]; exact hPc, va_K.moved hW.alike hKc, nw_warm hW hN⟩⟩ rfl rfl hl.1 rfl (lv_room (Nat.le_of_ble_eq_true rfl)) dX3_findHalves_91 ⟨Nat.le_of_ble_eq_true rfl, Nat.le_of_ble_eq_true rfl⟩) (fun q9 eq9 => ?_)
                subst q9
                refine lv_iload_n hx hb dX3_findHalves_94 rfl (lv_at hl 6 rfl) ?_
                refine lv_icmp_ne (tgt := 106) hx hb dX3_findHalves_95 (by decide) (fun c81 => ?_) (fun c81 => ?_)
                · replace h := (if_neg c81).symm.trans h
                  obtain ⟨v82, ev82⟩ : ∃ z : Int32, z = x59 + 1 := ⟨_, rfl⟩
                  refine lv_iinc (v := v82) (lv' := [(4, .int v82), (6, .int r76), (5, .int r75), (3, .int x58), (0, .ref h0), (1, .ref h1), (2, .int a1)]) hx hb dX3_findHalves_106 hl (k := 3) rfl (by rw [ev82]; rfl) (by decide) rfl (fun ls hl => ?_)
                  replace h := mi_use ev82 h
                  refine lv_goto (tgt := 17) hx hb dX3_findHalves_109 (by decide) ?_
                  exact ih _ _ _ _ _ _ (hA _ (Option.some.inj h).symm) hkE _ _ ls hP hD hS (lv_sub hl [3, 0, 4, 5, 6] rfl)
                · replace h := (if_pos c81).symm.trans h
                  refine lv_aload_n hx hb dX3_findHalves_98 rfl (lv_at hl 4 rfl) ?_
                  refine lv_iload hx hb dX3_findHalves_99 (lv_at hl 0 rfl) ?_
                  refine lv_iload_n hx hb dX3_findHalves_101 rfl (lv_at hl 2 rfl) ?_
                  obtain ⟨r83, hr83, h⟩ := Option.bind_eq_some_iff.mp h
                  have hPc := hP.sub (ws' := [(h0, .inr (3, [.ref h0_roots, .ref h0_strides, .ref h0_halvesFound])), (h0_halvesFound, .inl (k_t_halvesFound, 4, .inl x61))]) [0, 2] rfl
                  have hDc := hD.sub (ws' := [(h0, .inr (3, [.ref h0_roots, .ref h0_strides, .ref h0_halvesFound])), (h0_halvesFound, .inl (k_t_halvesFound, 4, .inl x61))]) [0, 2] (by decide) rfl
                  have hKc := hK.sub (tys' := [(k_t_halvesFound, .int)]) [0] rfl
                  have hFc := va_free (wc := [(h0, .inr (3, [.ref h0_roots, .ref h0_strides, .ref h0_halvesFound])), (h0_halvesFound, .inl (k_t_halvesFound, 4, .inl x61))]) hD hS hA0 [0, 2] rfl
                  refine va_calli (va_runV (As := [.int r76, .int x58]) (rest := []) ⟨hx, hb, hml, hown, hts⟩ (ctX3_keepHalf l N dC dI _ h0 h0_halvesFound h0_roots h0_strides k_t_halvesFound x61 r76 x58 r83 hr83) (cwV 2 hts gX3_findHalves_X3_keepHalf rfl rfl rfl (by decide +kernel) ⟨Nat.le_of_ble_eq_true rfl, Nat.le_of_ble_eq_true rfl⟩) ⟨fun a U g mk q => by obtain ⟨q0, q1, qP, qK, qN, qD⟩ := q; exact ⟨q0, q1, qP, va_K.moved (u := U) (U := U.calling g mk a) (Vm.Alike.refl U.vm) qK, nw_same (u := U) (U := U.calling g mk a) rfl qN, qD⟩, va_recv hKc hPc (ci := 3) (q0 := 0) rfl rfl, fun U hU hW => ⟨rfl, by rw [hU], by rw [hU]; exact hPc, va_K.moved hW.alike hKc, nw_warm hW hN, hDc.weaken (fun _ _ _ _ => trivial)⟩⟩ rfl rfl hl.1 rfl (lv_room (Nat.le_of_ble_eq_true rfl)) dX3_findHalves_102 ⟨Nat.le_of_ble_eq_true rfl, Nat.le_of_ble_eq_true rfl⟩) hS (fun q _ h => hFc q h) hFc (fun rz u t H1 locs ht hvm hw hB1 hz1 hk1 hS => ?_)
                  obtain ⟨f84, rfl⟩ : ∃ z, z = u := ⟨_, rfl⟩
                  obtain ⟨hP1, hK1, hD1⟩ := hB1
                  rw [ht] at hP1
                  have hK1 := va_K.moved hvm.symm hK1
                  obtain ⟨r85, rfl⟩ : ∃ z, z = rz := ⟨_, rfl⟩
                  subst hw
                  try dsimp only at h
                  obtain ⟨hP, hD⟩ := va_join (wr := [(h0_roots, .inr (1, [.ref h0_roots_least, .int u73])), (h0_roots_least, .inl (k_t_roots_least, 10007, .inl f74)), (h1, .inr (0, [.int p0_p, .int p0_a, .int p0_b, .int p0_from, .int p0_kernelPoint, .int p0_kernelOrder, .int p0_points, .int p0_inner, .int p0_outer, .int p0_makersFound, .int p0_first, .int p0_second]))]) (w1 := [(h0, .inr (3, [.ref h0_roots, .ref h0_strides, .ref h0_halvesFound])), (h0_halvesFound, .inl (k_t_halvesFound, 4, .inl f84))]) hP hD [0, 2] [1, 3, 4] rfl rfl (by decide) (by decide) hk1 hFc hP1 hD1
                  generalize H1 = H at hP hS ⊢
                  have hP := hP.sub (ws' := [(h0, .inr (3, [.ref h0_roots, .ref h0_strides, .ref h0_halvesFound])), (h0_roots, .inr (1, [.ref h0_roots_least, .int u73])), (h0_halvesFound, .inl (k_t_halvesFound, 4, .inl f84)), (h0_roots_least, .inl (k_t_roots_least, 10007, .inl f74)), (h1, .inr (0, [.int p0_p, .int p0_a, .int p0_b, .int p0_from, .int p0_kernelPoint, .int p0_kernelOrder, .int p0_points, .int p0_inner, .int p0_outer, .int p0_makersFound, .int p0_first, .int p0_second]))]) [3, 0, 4, 1, 2] rfl
                  have hD := hD.sub (ws' := [(h0, .inr (3, [.ref h0_roots, .ref h0_strides, .ref h0_halvesFound])), (h0_roots, .inr (1, [.ref h0_roots_least, .int u73])), (h0_halvesFound, .inl (k_t_halvesFound, 4, .inl f84)), (h0_roots_least, .inl (k_t_roots_least, 10007, .inl f74)), (h1, .inr (0, [.int p0_p, .int p0_a, .int p0_b, .int p0_from, .int p0_kernelPoint, .int p0_kernelOrder, .int p0_points, .int p0_inner, .int p0_outer, .int p0_makersFound, .int p0_first, .int p0_second]))]) [3, 0, 4, 1, 2] (by decide) rfl
                  refine lv_istore_n (lv' := [(3, .int r85), (6, .int r76), (5, .int r75), (4, .int x59), (0, .ref h0), (1, .ref h1), (2, .int a1)]) hx hb dX3_findHalves_105 rfl hl (by decide) rfl (fun ls hl => ?_)
                  obtain ⟨v86, ev86⟩ : ∃ z : Int32, z = x59 + 1 := ⟨_, rfl⟩
                  refine lv_iinc (v := v86) (lv' := [(4, .int v86), (3, .int r85), (6, .int r76), (5, .int r75), (0, .ref h0), (1, .ref h1), (2, .int a1)]) hx hb dX3_findHalves_106 hl (k := 3) rfl (by rw [ev86]; rfl) (by decide) rfl (fun ls hl => ?_)
                  replace h := mi_use ev86 h
                  refine lv_goto (tgt := 17) hx hb dX3_findHalves_109 (by decide) ?_
                  exact ih _ _ _ _ _ _ (hA _ (Option.some.inj h).symm) hkE _ _ ls hP hD hS (lv_sub hl [1, 0, 4, 5, 6] rfl)
            · replace h := (if_neg c77).symm.trans h
              refine lv_aload_n hx hb dX3_findHalves_59 rfl (lv_at hl 5 rfl) ?_
              refine lv_iload hx hb dX3_findHalves_60 (lv_at hl 1 rfl) ?_
              refine lv_iload hx hb dX3_findHalves_62 (lv_at hl 1 rfl) ?_
              obtain ⟨r87, hr87, h⟩ := Option.bind_eq_some_iff.mp h
              have hPc := hP.sub (ws' := [(h1, .inr (0, [.int p0_p, .int p0_a, .int p0_b, .int p0_from, .int p0_kernelPoint, .int p0_kernelOrder, .int p0_points, .int p0_inner, .int p0_outer, .int p0_makersFound, .int p0_first, .int p0_second]))]) [4] rfl
              have hKc := hK.sub (tys' := []) [] rfl
              refine vp_callSi (W.runV (As := [.int r75, .int r75]) (rest := []) ⟨hx, hb, hml, hown, hts⟩ (ctX0_sum l N dC dI  h1 p0_p p0_a p0_b p0_from p0_kernelPoint p0_kernelOrder p0_points p0_inner p0_outer p0_makersFound p0_first p0_second r75 r75 r87 hr87) (cwV 2 hts gX3_findHalves_X0_sum rfl rfl rfl (by decide +kernel) ⟨Nat.le_of_ble_eq_true rfl, Nat.le_of_ble_eq_true rfl⟩) ⟨fun a U g mk q => by obtain ⟨q0, qP, qK, qN⟩ := q; exact ⟨q0, qP, va_K.moved (u := U) (U := U.calling g mk a) (Vm.Alike.refl U.vm) qK, nw_same (u := U) (U := U.calling g mk a) rfl qN⟩, va_recv hKc hPc (ci := 0) (q0 := 0) rfl rfl, fun U hU hW => ⟨rfl, by rw [hU]; exact hPc, va_K.moved hW.alike hKc, nw_warm hW hN⟩⟩ rfl rfl hl.1 rfl (lv_room (Nat.le_of_ble_eq_true rfl)) dX3_findHalves_64 ⟨Nat.le_of_ble_eq_true rfl, Nat.le_of_ble_eq_true rfl⟩) (fun q9 eq9 => ?_)
              subst q9
              refine lv_iload_n hx hb dX3_findHalves_67 rfl (lv_at hl 6 rfl) ?_
              refine lv_icmp_ne (tgt := 79) hx hb dX3_findHalves_68 (by decide) (fun c88 => ?_) (fun c88 => ?_)
              · replace h := (if_neg c88).symm.trans h
                refine lv_iload hx hb dX3_findHalves_79 (lv_at hl 0 rfl) ?_
                refine lv_iload hx hb dX3_findHalves_81 (lv_at hl 1 rfl) ?_
                refine lv_icmp_eq (tgt := 106) hx hb dX3_findHalves_83 (by decide) (fun c89 => ?_) (fun c89 => ?_)
                · replace h := (if_pos c89).symm.trans h
                  obtain ⟨v90, ev90⟩ : ∃ z : Int32, z = x59 + 1 := ⟨_, rfl⟩
                  refine lv_iinc (v := v90) (lv' := [(4, .int v90), (6, .int r76), (5, .int r75), (3, .int x58), (0, .ref h0), (1, .ref h1), (2, .int a1)]) hx hb dX3_findHalves_106 hl (k := 3) rfl (by rw [ev90]; rfl) (by decide) rfl (fun ls hl => ?_)
                  replace h := mi_use ev90 h
                  refine lv_goto (tgt := 17) hx hb dX3_findHalves_109 (by decide) ?_
                  exact ih _ _ _ _ _ _ (hA _ (Option.some.inj h).symm) hkE _ _ ls hP hD hS (lv_sub hl [3, 0, 4, 5, 6] rfl)
                · replace h := (if_neg c89).symm.trans h
                  refine lv_aload_n hx hb dX3_findHalves_86 rfl (lv_at hl 5 rfl) ?_
                  refine lv_iload hx hb dX3_findHalves_87 (lv_at hl 0 rfl) ?_
                  refine lv_iload hx hb dX3_findHalves_89 (lv_at hl 0 rfl) ?_
                  obtain ⟨r91, hr91, h⟩ := Option.bind_eq_some_iff.mp h
                  have hPc := hP.sub (ws' := [(h1, .inr (0, [.int p0_p, .int p0_a, .int p0_b, .int p0_from, .int p0_kernelPoint, .int p0_kernelOrder, .int p0_points, .int p0_inner, .int p0_outer, .int p0_makersFound, .int p0_first, .int p0_second]))]) [4] rfl
                  have hKc := hK.sub (tys' := []) [] rfl
                  refine vp_callSi (W.runV (As := [.int r76, .int r76]) (rest := []) ⟨hx, hb, hml, hown, hts⟩ (ctX0_sum l N dC dI  h1 p0_p p0_a p0_b p0_from p0_kernelPoint p0_kernelOrder p0_points p0_inner p0_outer p0_makersFound p0_first p0_second r76 r76 r91 hr91) (cwV 2 hts gX3_findHalves_X0_sum rfl rfl rfl (by decide +kernel) ⟨Nat.le_of_ble_eq_true rfl, Nat.le_of_ble_eq_true rfl⟩) ⟨fun a U g mk q => by obtain ⟨q0, qP, qK, qN⟩ := q; exact ⟨q0, qP, va_K.moved (u := U) (U := U.calling g mk a) (Vm.Alike.refl U.vm) qK, nw_same (u := U) (U := U.calling g mk a) rfl qN⟩, va_recv hKc hPc (ci := 0) (q0 := 0) rfl rfl, fun U hU hW => ⟨rfl, by rw [hU]; exact hPc, va_K.moved hW.alike hKc, nw_warm hW hN⟩⟩ rfl rfl hl.1 rfl (lv_room (Nat.le_of_ble_eq_true rfl)) dX3_findHalves_91 ⟨Nat.le_of_ble_eq_true rfl, Nat.le_of_ble_eq_true rfl⟩) (fun q9 eq9 => ?_)
                  subst q9
                  refine lv_iload_n hx hb dX3_findHalves_94 rfl (lv_at hl 6 rfl) ?_
                  refine lv_icmp_ne (tgt := 106) hx hb dX3_findHalves_95 (by decide) (fun c92 => ?_) (fun c92 => ?_)
                  · replace h := (if_neg c92).symm.trans h
                    obtain ⟨v93, ev93⟩ : ∃ z : Int32, z = x59 + 1 := ⟨_, rfl⟩
                    refine lv_iinc (v := v93) (lv' := [(4, .int v93), (6, .int r76), (5, .int r75), (3, .int x58), (0, .ref h0), (1, .ref h1), (2, .int a1)]) hx hb dX3_findHalves_106 hl (k := 3) rfl (by rw [ev93]; rfl) (by decide) rfl (fun ls hl => ?_)
                    replace h := mi_use ev93 h
                    refine lv_goto (tgt := 17) hx hb dX3_findHalves_109 (by decide) ?_
                    exact ih _ _ _ _ _ _ (hA _ (Option.some.inj h).symm) hkE _ _ ls hP hD hS (lv_sub hl [3, 0, 4, 5, 6] rfl)
                  · replace h := (if_pos c92).symm.trans h
                    refine lv_aload_n hx hb dX3_findHalves_98 rfl (lv_at hl 4 rfl) ?_
                    refine lv_iload hx hb dX3_findHalves_99 (lv_at hl 0 rfl) ?_
                    refine lv_iload_n hx hb dX3_findHalves_101 rfl (lv_at hl 2 rfl) ?_
                    obtain ⟨r94, hr94, h⟩ := Option.bind_eq_some_iff.mp h
                    have hPc := hP.sub (ws' := [(h0, .inr (3, [.ref h0_roots, .ref h0_strides, .ref h0_halvesFound])), (h0_halvesFound, .inl (k_t_halvesFound, 4, .inl x61))]) [0, 2] rfl
                    have hDc := hD.sub (ws' := [(h0, .inr (3, [.ref h0_roots, .ref h0_strides, .ref h0_halvesFound])), (h0_halvesFound, .inl (k_t_halvesFound, 4, .inl x61))]) [0, 2] (by decide) rfl
                    have hKc := hK.sub (tys' := [(k_t_halvesFound, .int)]) [0] rfl
                    have hFc := va_free (wc := [(h0, .inr (3, [.ref h0_roots, .ref h0_strides, .ref h0_halvesFound])), (h0_halvesFound, .inl (k_t_halvesFound, 4, .inl x61))]) hD hS hA0 [0, 2] rfl
                    refine va_calli (va_runV (As := [.int r76, .int x58]) (rest := []) ⟨hx, hb, hml, hown, hts⟩ (ctX3_keepHalf l N dC dI _ h0 h0_halvesFound h0_roots h0_strides k_t_halvesFound x61 r76 x58 r94 hr94) (cwV 2 hts gX3_findHalves_X3_keepHalf rfl rfl rfl (by decide +kernel) ⟨Nat.le_of_ble_eq_true rfl, Nat.le_of_ble_eq_true rfl⟩) ⟨fun a U g mk q => by obtain ⟨q0, q1, qP, qK, qN, qD⟩ := q; exact ⟨q0, q1, qP, va_K.moved (u := U) (U := U.calling g mk a) (Vm.Alike.refl U.vm) qK, nw_same (u := U) (U := U.calling g mk a) rfl qN, qD⟩, va_recv hKc hPc (ci := 3) (q0 := 0) rfl rfl, fun U hU hW => ⟨rfl, by rw [hU], by rw [hU]; exact hPc, va_K.moved hW.alike hKc, nw_warm hW hN, hDc.weaken (fun _ _ _ _ => trivial)⟩⟩ rfl rfl hl.1 rfl (lv_room (Nat.le_of_ble_eq_true rfl)) dX3_findHalves_102 ⟨Nat.le_of_ble_eq_true rfl, Nat.le_of_ble_eq_true rfl⟩) hS (fun q _ h => hFc q h) hFc (fun rz u t H1 locs ht hvm hw hB1 hz1 hk1 hS => ?_)
                    obtain ⟨f95, rfl⟩ : ∃ z, z = u := ⟨_, rfl⟩
                    obtain ⟨hP1, hK1, hD1⟩ := hB1
                    rw [ht] at hP1
                    have hK1 := va_K.moved hvm.symm hK1
                    obtain ⟨r96, rfl⟩ : ∃ z, z = rz := ⟨_, rfl⟩
                    subst hw
                    try dsimp only at h
                    obtain ⟨hP, hD⟩ := va_join (wr := [(h0_roots, .inr (1, [.ref h0_roots_least, .int u73])), (h0_roots_least, .inl (k_t_roots_least, 10007, .inl f74)), (h1, .inr (0, [.int p0_p, .int p0_a, .int p0_b, .int p0_from, .int p0_kernelPoint, .int p0_kernelOrder, .int p0_points, .int p0_inner, .int p0_outer, .int p0_makersFound, .int p0_first, .int p0_second]))]) (w1 := [(h0, .inr (3, [.ref h0_roots, .ref h0_strides, .ref h0_halvesFound])), (h0_halvesFound, .inl (k_t_halvesFound, 4, .inl f95))]) hP hD [0, 2] [1, 3, 4] rfl rfl (by decide) (by decide) hk1 hFc hP1 hD1
                    generalize H1 = H at hP hS ⊢
                    have hP := hP.sub (ws' := [(h0, .inr (3, [.ref h0_roots, .ref h0_strides, .ref h0_halvesFound])), (h0_roots, .inr (1, [.ref h0_roots_least, .int u73])), (h0_halvesFound, .inl (k_t_halvesFound, 4, .inl f95)), (h0_roots_least, .inl (k_t_roots_least, 10007, .inl f74)), (h1, .inr (0, [.int p0_p, .int p0_a, .int p0_b, .int p0_from, .int p0_kernelPoint, .int p0_kernelOrder, .int p0_points, .int p0_inner, .int p0_outer, .int p0_makersFound, .int p0_first, .int p0_second]))]) [3, 0, 4, 1, 2] rfl
                    have hD := hD.sub (ws' := [(h0, .inr (3, [.ref h0_roots, .ref h0_strides, .ref h0_halvesFound])), (h0_roots, .inr (1, [.ref h0_roots_least, .int u73])), (h0_halvesFound, .inl (k_t_halvesFound, 4, .inl f95)), (h0_roots_least, .inl (k_t_roots_least, 10007, .inl f74)), (h1, .inr (0, [.int p0_p, .int p0_a, .int p0_b, .int p0_from, .int p0_kernelPoint, .int p0_kernelOrder, .int p0_points, .int p0_inner, .int p0_outer, .int p0_makersFound, .int p0_first, .int p0_second]))]) [3, 0, 4, 1, 2] (by decide) rfl
                    refine lv_istore_n (lv' := [(3, .int r96), (6, .int r76), (5, .int r75), (4, .int x59), (0, .ref h0), (1, .ref h1), (2, .int a1)]) hx hb dX3_findHalves_105 rfl hl (by decide) rfl (fun ls hl => ?_)
                    obtain ⟨v97, ev97⟩ : ∃ z : Int32, z = x59 + 1 := ⟨_, rfl⟩
                    refine lv_iinc (v := v97) (lv' := [(4, .int v97), (3, .int r96), (6, .int r76), (5, .int r75), (0, .ref h0), (1, .ref h1), (2, .int a1)]) hx hb dX3_findHalves_106 hl (k := 3) rfl (by rw [ev97]; rfl) (by decide) rfl (fun ls hl => ?_)
                    replace h := mi_use ev97 h
                    refine lv_goto (tgt := 17) hx hb dX3_findHalves_109 (by decide) ?_
                    exact ih _ _ _ _ _ _ (hA _ (Option.some.inj h).symm) hkE _ _ ls hP hD hS (lv_sub hl [1, 0, 4, 5, 6] rfl)
              · replace h := (if_pos c88).symm.trans h
                refine lv_aload_n hx hb dX3_findHalves_71 rfl (lv_at hl 4 rfl) ?_
                refine lv_iload hx hb dX3_findHalves_72 (lv_at hl 1 rfl) ?_
                refine lv_iload_n hx hb dX3_findHalves_74 rfl (lv_at hl 2 rfl) ?_
                obtain ⟨r98, hr98, h⟩ := Option.bind_eq_some_iff.mp h
                have hPc := hP.sub (ws' := [(h0, .inr (3, [.ref h0_roots, .ref h0_strides, .ref h0_halvesFound])), (h0_halvesFound, .inl (k_t_halvesFound, 4, .inl x61))]) [0, 2] rfl
                have hDc := hD.sub (ws' := [(h0, .inr (3, [.ref h0_roots, .ref h0_strides, .ref h0_halvesFound])), (h0_halvesFound, .inl (k_t_halvesFound, 4, .inl x61))]) [0, 2] (by decide) rfl
                have hKc := hK.sub (tys' := [(k_t_halvesFound, .int)]) [0] rfl
                have hFc := va_free (wc := [(h0, .inr (3, [.ref h0_roots, .ref h0_strides, .ref h0_halvesFound])), (h0_halvesFound, .inl (k_t_halvesFound, 4, .inl x61))]) hD hS hA0 [0, 2] rfl
                refine va_calli (va_runV (As := [.int r75, .int x58]) (rest := []) ⟨hx, hb, hml, hown, hts⟩ (ctX3_keepHalf l N dC dI _ h0 h0_halvesFound h0_roots h0_strides k_t_halvesFound x61 r75 x58 r98 hr98) (cwV 2 hts gX3_findHalves_X3_keepHalf rfl rfl rfl (by decide +kernel) ⟨Nat.le_of_ble_eq_true rfl, Nat.le_of_ble_eq_true rfl⟩) ⟨fun a U g mk q => by obtain ⟨q0, q1, qP, qK, qN, qD⟩ := q; exact ⟨q0, q1, qP, va_K.moved (u := U) (U := U.calling g mk a) (Vm.Alike.refl U.vm) qK, nw_same (u := U) (U := U.calling g mk a) rfl qN, qD⟩, va_recv hKc hPc (ci := 3) (q0 := 0) rfl rfl, fun U hU hW => ⟨rfl, by rw [hU], by rw [hU]; exact hPc, va_K.moved hW.alike hKc, nw_warm hW hN, hDc.weaken (fun _ _ _ _ => trivial)⟩⟩ rfl rfl hl.1 rfl (lv_room (Nat.le_of_ble_eq_true rfl)) dX3_findHalves_75 ⟨Nat.le_of_ble_eq_true rfl, Nat.le_of_ble_eq_true rfl⟩) hS (fun q _ h => hFc q h) hFc (fun rz u t H1 locs ht hvm hw hB1 hz1 hk1 hS => ?_)
                obtain ⟨f99, rfl⟩ : ∃ z, z = u := ⟨_, rfl⟩
                obtain ⟨hP1, hK1, hD1⟩ := hB1
                rw [ht] at hP1
                have hK1 := va_K.moved hvm.symm hK1
                obtain ⟨r100, rfl⟩ : ∃ z, z = rz := ⟨_, rfl⟩
                subst hw
                try dsimp only at h
                obtain ⟨hP, hD⟩ := va_join (wr := [(h0_roots, .inr (1, [.ref h0_roots_least, .int u73])), (h0_roots_least, .inl (k_t_roots_least, 10007, .inl f74)), (h1, .inr (0, [.int p0_p, .int p0_a, .int p0_b, .int p0_from, .int p0_kernelPoint, .int p0_kernelOrder, .int p0_points, .int p0_inner, .int p0_outer, .int p0_makersFound, .int p0_first, .int p0_second]))]) (w1 := [(h0, .inr (3, [.ref h0_roots, .ref h0_strides, .ref h0_halvesFound])), (h0_halvesFound, .inl (k_t_halvesFound, 4, .inl f99))]) hP hD [0, 2] [1, 3, 4] rfl rfl (by decide) (by decide) hk1 hFc hP1 hD1
                generalize H1 = H at hP hS ⊢
                have hP := hP.sub (ws' := [(h0, .inr (3, [.ref h0_roots, .ref h0_strides, .ref h0_halvesFound])), (h0_roots, .inr (1, [.ref h0_roots_least, .int u73])), (h0_halvesFound, .inl (k_t_halvesFound, 4, .inl f99)), (h0_roots_least, .inl (k_t_roots_least, 10007, .inl f74)), (h1, .inr (0, [.int p0_p, .int p0_a, .int p0_b, .int p0_from, .int p0_kernelPoint, .int p0_kernelOrder, .int p0_points, .int p0_inner, .int p0_outer, .int p0_makersFound, .int p0_first, .int p0_second]))]) [3, 0, 4, 1, 2] rfl
                have hD := hD.sub (ws' := [(h0, .inr (3, [.ref h0_roots, .ref h0_strides, .ref h0_halvesFound])), (h0_roots, .inr (1, [.ref h0_roots_least, .int u73])), (h0_halvesFound, .inl (k_t_halvesFound, 4, .inl f99)), (h0_roots_least, .inl (k_t_roots_least, 10007, .inl f74)), (h1, .inr (0, [.int p0_p, .int p0_a, .int p0_b, .int p0_from, .int p0_kernelPoint, .int p0_kernelOrder, .int p0_points, .int p0_inner, .int p0_outer, .int p0_makersFound, .int p0_first, .int p0_second]))]) [3, 0, 4, 1, 2] (by decide) rfl
                refine lv_istore_n (lv' := [(3, .int r100), (6, .int r76), (5, .int r75), (4, .int x59), (0, .ref h0), (1, .ref h1), (2, .int a1)]) hx hb dX3_findHalves_78 rfl hl (by decide) rfl (fun ls hl => ?_)
                refine lv_iload hx hb dX3_findHalves_79 (lv_at hl 1 rfl) ?_
                refine lv_iload hx hb dX3_findHalves_81 (lv_at hl 2 rfl) ?_
                refine lv_icmp_eq (tgt := 106) hx hb dX3_findHalves_83 (by decide) (fun c101 => ?_) (fun c101 => ?_)
                · replace h := (if_pos c101).symm.trans h
                  obtain ⟨v102, ev102⟩ : ∃ z : Int32, z = x59 + 1 := ⟨_, rfl⟩
                  refine lv_iinc (v := v102) (lv' := [(4, .int v102), (3, .int r100), (6, .int r76), (5, .int r75), (0, .ref h0), (1, .ref h1), (2, .int a1)]) hx hb dX3_findHalves_106 hl (k := 3) rfl (by rw [ev102]; rfl) (by decide) rfl (fun ls hl => ?_)
                  replace h := mi_use ev102 h
                  refine lv_goto (tgt := 17) hx hb dX3_findHalves_109 (by decide) ?_
                  exact ih _ _ _ _ _ _ (hA _ (Option.some.inj h).symm) hkE _ _ ls hP hD hS (lv_sub hl [1, 0, 4, 5, 6] rfl)
                · replace h := (if_neg c101).symm.trans h
                  refine lv_aload_n hx hb dX3_findHalves_86 rfl (lv_at hl 5 rfl) ?_
                  refine lv_iload hx hb dX3_findHalves_87 (lv_at hl 1 rfl) ?_
                  refine lv_iload hx hb dX3_findHalves_89 (lv_at hl 1 rfl) ?_
                  obtain ⟨r103, hr103, h⟩ := Option.bind_eq_some_iff.mp h
                  have hPc := hP.sub (ws' := [(h1, .inr (0, [.int p0_p, .int p0_a, .int p0_b, .int p0_from, .int p0_kernelPoint, .int p0_kernelOrder, .int p0_points, .int p0_inner, .int p0_outer, .int p0_makersFound, .int p0_first, .int p0_second]))]) [4] rfl
                  have hKc := hK.sub (tys' := []) [] rfl
                  refine vp_callSi (W.runV (As := [.int r76, .int r76]) (rest := []) ⟨hx, hb, hml, hown, hts⟩ (ctX0_sum l N dC dI  h1 p0_p p0_a p0_b p0_from p0_kernelPoint p0_kernelOrder p0_points p0_inner p0_outer p0_makersFound p0_first p0_second r76 r76 r103 hr103) (cwV 2 hts gX3_findHalves_X0_sum rfl rfl rfl (by decide +kernel) ⟨Nat.le_of_ble_eq_true rfl, Nat.le_of_ble_eq_true rfl⟩) ⟨fun a U g mk q => by obtain ⟨q0, qP, qK, qN⟩ := q; exact ⟨q0, qP, va_K.moved (u := U) (U := U.calling g mk a) (Vm.Alike.refl U.vm) qK, nw_same (u := U) (U := U.calling g mk a) rfl qN⟩, va_recv hKc hPc (ci := 0) (q0 := 0) rfl rfl, fun U hU hW => ⟨rfl, by rw [hU]; exact hPc, va_K.moved hW.alike hKc, nw_warm hW hN⟩⟩ rfl rfl hl.1 rfl (lv_room (Nat.le_of_ble_eq_true rfl)) dX3_findHalves_91 ⟨Nat.le_of_ble_eq_true rfl, Nat.le_of_ble_eq_true rfl⟩) (fun q9 eq9 => ?_)
                  subst q9
                  refine lv_iload_n hx hb dX3_findHalves_94 rfl (lv_at hl 6 rfl) ?_
                  refine lv_icmp_ne (tgt := 106) hx hb dX3_findHalves_95 (by decide) (fun c104 => ?_) (fun c104 => ?_)
                  · replace h := (if_neg c104).symm.trans h
                    obtain ⟨v105, ev105⟩ : ∃ z : Int32, z = x59 + 1 := ⟨_, rfl⟩
                    refine lv_iinc (v := v105) (lv' := [(4, .int v105), (3, .int r100), (6, .int r76), (5, .int r75), (0, .ref h0), (1, .ref h1), (2, .int a1)]) hx hb dX3_findHalves_106 hl (k := 3) rfl (by rw [ev105]; rfl) (by decide) rfl (fun ls hl => ?_)
                    replace h := mi_use ev105 h
                    refine lv_goto (tgt := 17) hx hb dX3_findHalves_109 (by decide) ?_
                    exact ih _ _ _ _ _ _ (hA _ (Option.some.inj h).symm) hkE _ _ ls hP hD hS (lv_sub hl [1, 0, 4, 5, 6] rfl)
                  · replace h := (if_pos c104).symm.trans h
                    refine lv_aload_n hx hb dX3_findHalves_98 rfl (lv_at hl 4 rfl) ?_
                    refine lv_iload hx hb dX3_findHalves_99 (lv_at hl 1 rfl) ?_
                    refine lv_iload_n hx hb dX3_findHalves_101 rfl (lv_at hl 0 rfl) ?_
                    obtain ⟨r106, hr106, h⟩ := Option.bind_eq_some_iff.mp h
                    have hPc := hP.sub (ws' := [(h0, .inr (3, [.ref h0_roots, .ref h0_strides, .ref h0_halvesFound])), (h0_halvesFound, .inl (k_t_halvesFound, 4, .inl f99))]) [0, 2] rfl
                    have hDc := hD.sub (ws' := [(h0, .inr (3, [.ref h0_roots, .ref h0_strides, .ref h0_halvesFound])), (h0_halvesFound, .inl (k_t_halvesFound, 4, .inl f99))]) [0, 2] (by decide) rfl
                    have hKc := hK.sub (tys' := [(k_t_halvesFound, .int)]) [0] rfl
                    have hFc := va_free (wc := [(h0, .inr (3, [.ref h0_roots, .ref h0_strides, .ref h0_halvesFound])), (h0_halvesFound, .inl (k_t_halvesFound, 4, .inl f99))]) hD hS hA0 [0, 2] rfl
                    refine va_calli (va_runV (As := [.int r76, .int r100]) (rest := []) ⟨hx, hb, hml, hown, hts⟩ (ctX3_keepHalf l N dC dI _ h0 h0_halvesFound h0_roots h0_strides k_t_halvesFound f99 r76 r100 r106 hr106) (cwV 2 hts gX3_findHalves_X3_keepHalf rfl rfl rfl (by decide +kernel) ⟨Nat.le_of_ble_eq_true rfl, Nat.le_of_ble_eq_true rfl⟩) ⟨fun a U g mk q => by obtain ⟨q0, q1, qP, qK, qN, qD⟩ := q; exact ⟨q0, q1, qP, va_K.moved (u := U) (U := U.calling g mk a) (Vm.Alike.refl U.vm) qK, nw_same (u := U) (U := U.calling g mk a) rfl qN, qD⟩, va_recv hKc hPc (ci := 3) (q0 := 0) rfl rfl, fun U hU hW => ⟨rfl, by rw [hU], by rw [hU]; exact hPc, va_K.moved hW.alike hKc, nw_warm hW hN, hDc.weaken (fun _ _ _ _ => trivial)⟩⟩ rfl rfl hl.1 rfl (lv_room (Nat.le_of_ble_eq_true rfl)) dX3_findHalves_102 ⟨Nat.le_of_ble_eq_true rfl, Nat.le_of_ble_eq_true rfl⟩) hS (fun q _ h => hFc q h) hFc (fun rz u t H1 locs ht hvm hw hB1 hz1 hk1 hS => ?_)
                    obtain ⟨f107, rfl⟩ : ∃ z, z = u := ⟨_, rfl⟩
                    obtain ⟨hP1, hK1, hD1⟩ := hB1
                    rw [ht] at hP1
                    have hK1 := va_K.moved hvm.symm hK1
                    obtain ⟨r108, rfl⟩ : ∃ z, z = rz := ⟨_, rfl⟩
                    subst hw
                    try dsimp only at h
                    obtain ⟨hP, hD⟩ := va_join (wr := [(h0_roots, .inr (1, [.ref h0_roots_least, .int u73])), (h0_roots_least, .inl (k_t_roots_least, 10007, .inl f74)), (h1, .inr (0, [.int p0_p, .int p0_a, .int p0_b, .int p0_from, .int p0_kernelPoint, .int p0_kernelOrder, .int p0_points, .int p0_inner, .int p0_outer, .int p0_makersFound, .int p0_first, .int p0_second]))]) (w1 := [(h0, .inr (3, [.ref h0_roots, .ref h0_strides, .ref h0_halvesFound])), (h0_halvesFound, .inl (k_t_halvesFound, 4, .inl f107))]) hP hD [0, 2] [1, 3, 4] rfl rfl (by decide) (by decide) hk1 hFc hP1 hD1
                    generalize H1 = H at hP hS ⊢
                    have hP := hP.sub (ws' := [(h0, .inr (3, [.ref h0_roots, .ref h0_strides, .ref h0_halvesFound])), (h0_roots, .inr (1, [.ref h0_roots_least, .int u73])), (h0_halvesFound, .inl (k_t_halvesFound, 4, .inl f107)), (h0_roots_least, .inl (k_t_roots_least, 10007, .inl f74)), (h1, .inr (0, [.int p0_p, .int p0_a, .int p0_b, .int p0_from, .int p0_kernelPoint, .int p0_kernelOrder, .int p0_points, .int p0_inner, .int p0_outer, .int p0_makersFound, .int p0_first, .int p0_second]))]) [3, 0, 4, 1, 2] rfl
                    have hD := hD.sub (ws' := [(h0, .inr (3, [.ref h0_roots, .ref h0_strides, .ref h0_halvesFound])), (h0_roots, .inr (1, [.ref h0_roots_least, .int u73])), (h0_halvesFound, .inl (k_t_halvesFound, 4, .inl f107)), (h0_roots_least, .inl (k_t_roots_least, 10007, .inl f74)), (h1, .inr (0, [.int p0_p, .int p0_a, .int p0_b, .int p0_from, .int p0_kernelPoint, .int p0_kernelOrder, .int p0_points, .int p0_inner, .int p0_outer, .int p0_makersFound, .int p0_first, .int p0_second]))]) [3, 0, 4, 1, 2] (by decide) rfl
                    refine lv_istore_n (lv' := [(3, .int r108), (6, .int r76), (5, .int r75), (4, .int x59), (0, .ref h0), (1, .ref h1), (2, .int a1)]) hx hb dX3_findHalves_105 rfl hl (by decide) rfl (fun ls hl => ?_)
                    obtain ⟨v109, ev109⟩ : ∃ z : Int32, z = x59 + 1 := ⟨_, rfl⟩
                    refine lv_iinc (v := v109) (lv' := [(4, .int v109), (3, .int r108), (6, .int r76), (5, .int r75), (0, .ref h0), (1, .ref h1), (2, .int a1)]) hx hb dX3_findHalves_106 hl (k := 3) rfl (by rw [ev109]; rfl) (by decide) rfl (fun ls hl => ?_)
                    replace h := mi_use ev109 h
                    refine lv_goto (tgt := 17) hx hb dX3_findHalves_109 (by decide) ?_
                    exact ih _ _ _ _ _ _ (hA _ (Option.some.inj h).symm) hkE _ _ ls hP hD hS (lv_sub hl [1, 0, 4, 5, 6] rfl)
    obtain ⟨o110, ho110, h⟩ := Option.bind_eq_some_iff.mp h
    refine L17 N _ _ _ _ _ o110 ho110 ?_ _ _ ls hP hD hS (lv_sub hl [1, 0, 2, 3, 4] rfl)
    intro y63 y64 y65 y66 y67 eo H locs ls hP hD hS hl
    subst eo
    try dsimp only at h
    refine lv_iload_n hx hb dX3_findHalves_112 rfl (lv_at hl 0 rfl) ?_
    have hv : (y63, y65, y66, y67) = rr := Option.some.inj h
    have hP9 := hP.sub (ws' := [(h0, .inr (3, [.ref h0_roots, .ref h0_strides, .ref h0_halvesFound])), (h0_roots, .inr (1, [.ref h0_roots_least, .int y65])), (h0_halvesFound, .inl (k_t_halvesFound, 4, .inl y66)), (h0_roots_least, .inl (k_t_roots_least, 10007, .inl y67)), (h1, .inr (0, [.int p0_p, .int p0_a, .int p0_b, .int p0_from, .int p0_kernelPoint, .int p0_kernelOrder, .int p0_points, .int p0_inner, .int p0_outer, .int p0_makersFound, .int p0_first, .int p0_second]))]) [0, 1, 2, 3, 4] rfl
    have hD9 := hD.sub (ws' := [(h0, .inr (3, [.ref h0_roots, .ref h0_strides, .ref h0_halvesFound])), (h0_roots, .inr (1, [.ref h0_roots_least, .int y65])), (h0_halvesFound, .inl (k_t_halvesFound, 4, .inl y66)), (h0_roots_least, .inl (k_t_roots_least, 10007, .inl y67)), (h1, .inr (0, [.int p0_p, .int p0_a, .int p0_b, .int p0_from, .int p0_kernelPoint, .int p0_kernelOrder, .int p0_points, .int p0_inner, .int p0_outer, .int p0_makersFound, .int p0_first, .int p0_second]))]) [0, 1, 2, 3, 4] (by decide) rfl
    have hK9 := hK.sub (tys' := [(k_t_halvesFound, .int), (k_t_roots_least, .int)]) [0, 1] rfl
    exact W.iret (v := y63) hx hb hr (fun t ht hW => ⟨⟨y63, (y65, y66, y67), rfl, hv, by rw [ht]; exact hP9, va_K.moved hW.alike hK9, hD9⟩, hS.F ht⟩) hS.2.2 dX3_findHalves_113
