set_option maxHeartbeats 4000000 in
set_option maxRecDepth 100000 in
theorem whole_start {p : Program} {e : Env} {s : State} {m : MethodId} {below : List Frame} {meth : Method} {c : Code} (l : Launch) {b L : Nat} {xs : Nat → Int32} (hL : L ≤ 3584) (C0 : lw_At p s m meth c b L xs) : W p l e room_1 s m #[Value.ref b] below meth c s.heap [] 0 0 (lw_Z below #[Value.ref b] s) (entryFrame m ([Value.ref b] : List Value).toArray 4) := by
  obtain ⟨hx, hb, hr, hml, hown, hts, hX, hbl, hlocks, hgv⟩ := id C0
  obtain ⟨c0, iS0, hKn0⟩ := u_known (C := RX0) (T := TX0) (N := 12) (n := 12) hts (by decide +kernel) (hts (.instantiable RX0 12) (by decide +kernel))
  obtain ⟨c1, iS1, hKn1⟩ := u_known (C := RX1) (T := TX1) (N := 2) (n := 2) hts (by decide +kernel) (hts (.instantiable RX1 2) (by decide +kernel))
  obtain ⟨c2, iS2, hKn2⟩ := u_known (C := RX2) (T := TX2) (N := 6) (n := 6) hts (by decide +kernel) (hts (.instantiable RX2 6) (by decide +kernel))
  obtain ⟨c3, iS3, hKn3⟩ := u_known (C := RX3) (T := TX3) (N := 3) (n := 3) hts (by decide +kernel) (hts (.instantiable RX3 3) (by decide +kernel))
  obtain ⟨c4, iS4, hKn4⟩ := u_known (C := RX5) (T := TX5) (N := 3) (n := 3) hts (by decide +kernel) (hts (.instantiable RX5 3) (by decide +kernel))
  obtain ⟨c5, iS5, hKn5⟩ := u_known (C := RX6) (T := TX6) (N := 18) (n := 18) hts (by decide +kernel) (hts (.instantiable RX6 18) (by decide +kernel))
  obtain ⟨dC, dI, hKc⟩ : ∃ (dC : Nat → ClassId) (dI : Nat → Nat → Nat), ∀ (k : Nat) (q : vw_C), vwCl[k]? = some q → u_Kn s q.1 q.2.1 q.2.2 (dC k) (dI k) := by
    refine ⟨fun k => if k = 0 then c0 else if k = 1 then c1 else if k = 2 then c2 else if k = 3 then c3 else if k = 4 then c4 else c5, fun k => if k = 0 then iS0 else if k = 1 then iS1 else if k = 2 then iS2 else if k = 3 then iS3 else if k = 4 then iS4 else iS5, ?_⟩
    intro k q hq
    match k, hq with
    | 0, hq => cases hq; exact hKn0
    | 1, hq => cases hq; exact hKn1
    | 2, hq => cases hq; exact hKn2
    | 3, hq => cases hq; exact hKn3
    | 4, hq => cases hq; exact hKn4
    | 5, hq => cases hq; exact hKn5
    | k + 6, hq => simp [vwCl] at hq
  have hN : nw_all s := ⟨va_Nw.of rfl (hts (.methodLinkNest RX0 27 yX5_xOf RX5) (by decide +kernel)), va_Nw.of rfl (hts (.methodLinkNest RX0 31 yX5_yOf RX5) (by decide +kernel)), va_Nw.of rfl (hts (.methodLinkNest RX0 60 yX5_pair RX5) (by decide +kernel)), va_Nw.of rfl (hts (.methodLinkNest RX2 57 yX5_xOf RX5) (by decide +kernel)), va_Nw.of rfl (hts (.methodLinkNest RX3 73 yX5_pair RX5) (by decide +kernel)), va_Nw.of rfl (hts (.methodLinkNest RX3 83 yX5_xOf RX5) (by decide +kernel)), va_AO.of (hts (.arrayOver (.object RX0)) (by decide +kernel))⟩
  obtain ⟨A, hAe⟩ : ∃ A : Nat → Prop, A = fun q => s.heap.size ≤ q := ⟨_, rfl⟩
  have hbA : ¬ A b := by rw [hAe]; exact Nat.not_le.mpr hbl
  have hA0 : ∀ q : Nat, s.heap.size ≤ q → A q := fun q h => by rw [hAe]; exact h
  have hS : va_S A s.heap s.heap [] := va_S.rf
  have hK : va_K (dC, dI) vwCl [] s := ⟨hKc, fun k q h => by simp at h⟩
  have hP : va_P (dC, dI) vwCl [] s.heap := fun k q h => by simp at h
  have hD : va_D A [] := ⟨fun i j p q h => by simp at h, fun k q h => by simp at h⟩
  have hl := lv_entry ([.ref b]) (n := 4) (Nat.le_of_ble_eq_true rfl)
  rw [lg_entry_eq]
  generalize (lg_sl ([.ref b]) ++ List.replicate (4 - (lg_sl ([.ref b])).length) Slot.unset).toArray = ls at hl ⊢
  have hl : lv_has ls 4 [(0, .ref b)] := hl
  obtain ⟨N, hN1, eN⟩ : ∃ N : Nat, 2 ^ 64 ≤ N ∧ N = 2 ^ 64 := ⟨_, Nat.le_refl _, rfl⟩
  refine va_new (ci := 4) (fs := [.null, .int 0, .null]) (C := RX5) (T := TX5) (N := 3) hx hb hts (by decide +kernel) tyX5 tyX5_ok hown (hts (.classLink R_law 7 RX5) (by decide +kernel)) (hts (.instantiable RX5 3) (by decide +kernel)) (hts (.initialized RX5) (by decide +kernel)) hK hP hD hS hA0 rfl (fun j hj => by rcases (show j = 0 ∨ j = 1 ∨ j = 2 by omega) with rfl | rfl | rfl <;> rfl) (by decide +kernel) (by decide +kernel) dL_law_0 (fun q0 H hP hD hS => ?_)
  have hP : va_P (dC, dI) vwCl [(q0, .inr (4, [.null, .int 0, .null]))] H := hP
  have hD : va_D A [(q0, .inr (4, [.null, .int 0, .null]))] := hD
  refine lv_dup hx hb dL_law_3 rfl ?_
  obtain ⟨r203, hr203⟩ : ∃ z, mX5_init N  = some z := l1_t_X5_init N (by omega)
  have hPc := hP.sub (ws' := [(q0, .inr (4, [.null, .int 0, .null]))]) [0] rfl
  have hDc := hD.sub (ws' := [(q0, .inr (4, [.null, .int 0, .null]))]) [0] (by decide) rfl
  have hKc := hK.sub (tys' := []) [] rfl
  have hFc := va_free (wc := [(q0, .inr (4, [.null, .int 0, .null]))]) hD hS hA0 [0] rfl
  refine va_callv (va_runI (As := []) (rest := [.ref q0]) ⟨hx, hb, hml, hown, hts⟩ (ctX5_init l N dC dI _ q0 0 r203 hr203) (cwI 0 hts gL1_X5_init rfl rfl rfl (hts (.initialized RX5) (by decide +kernel)) (hts (.methodLink RL 9 yX5_init) (by decide +kernel)) (hts (.instanceMethod yX5_init) (by decide +kernel)) rfl (by decide +kernel) ⟨Nat.le_of_ble_eq_true rfl, Nat.le_of_ble_eq_true rfl⟩) ⟨fun a U g mk q => by obtain ⟨q0, q1, qP, qK, qN, qD⟩ := q; exact ⟨q0, q1, qP, va_K.moved (u := U) (U := U.calling g mk a) (Vm.Alike.refl U.vm) qK, nw_same (u := U) (U := U.calling g mk a) rfl qN, qD⟩, fun U hU hW => ⟨rfl, by rw [hU], by rw [hU]; exact hPc, va_K.moved hW.alike hKc, nw_warm hW hN, hDc.weaken (fun _ _ _ _ => trivial)⟩⟩ rfl rfl hl.1 rfl (lv_room (Nat.le_of_ble_eq_true rfl)) dL_law_4 ⟨by decide +kernel, by decide +kernel⟩) hS (fun q _ h => hFc q h) hFc (fun u t H1 locs ht hvm hw hB1 hz1 hk1 hS => ?_)
  obtain ⟨u204, f205, u206, f207, u208, u209, u210, f211, f212, f213⟩ := u
  obtain ⟨q7_4, k7_4, q19_4, q5_23_4, q8_9_23_4, k8_9_23_4, q16_23_4, q8_20_23_4, k8_20_23_4, q17_20_23_4, k17_20_23_4, q28_23_4, k28_23_4, hP1, hK1, hD1⟩ := hB1
  rw [ht] at hP1
  have hK1 := va_K.moved hvm.symm hK1
  subst hw
  obtain ⟨hP, hD⟩ := va_join (wr := []) (w1 := [(q0, .inr (4, [.ref q7_4, .int u204, .ref q19_4])), (q7_4, .inl (k7_4, 24, .inr (.inr (.inr (.inr f205))))), (q19_4, .inr (3, [.ref q5_23_4, .ref q16_23_4, .ref q28_23_4])), (q5_23_4, .inr (1, [.ref q8_9_23_4, .int u206])), (q8_9_23_4, .inl (k8_9_23_4, 10007, .inl f207)), (q16_23_4, .inr (2, [.ref q8_20_23_4, .ref q17_20_23_4, .null, .int u208, .int u209, .int u210])), (q8_20_23_4, .inl (k8_20_23_4, 10007, .inl f211)), (q17_20_23_4, .inl (k17_20_23_4, 128, .inl f212)), (q28_23_4, .inl (k28_23_4, 4, .inl f213))]) hP hD [0] [] rfl rfl (by decide) (by decide) hk1 hFc hP1 hD1
  generalize H1 = H at hP hS ⊢
  have hP := hP.sub (ws' := [(q0, .inr (4, [.ref q7_4, .int u204, .ref q19_4])), (q7_4, .inl (k7_4, 24, .inr (.inr (.inr (.inr f205))))), (q19_4, .inr (3, [.ref q5_23_4, .ref q16_23_4, .ref q28_23_4])), (q5_23_4, .inr (1, [.ref q8_9_23_4, .int u206])), (q8_9_23_4, .inl (k8_9_23_4, 10007, .inl f207)), (q16_23_4, .inr (2, [.ref q8_20_23_4, .ref q17_20_23_4, .null, .int u208, .int u209, .int u210])), (q8_20_23_4, .inl (k8_20_23_4, 10007, .inl f211)), (q17_20_23_4, .inl (k17_20_23_4, 128, .inl f212)), (q28_23_4, .inl (k28_23_4, 4, .inl f213))]) [0, 1, 2, 3, 4, 5, 6, 7, 8] rfl
  have hD := hD.sub (ws' := [(q0, .inr (4, [.ref q7_4, .int u204, .ref q19_4])), (q7_4, .inl (k7_4, 24, .inr (.inr (.inr (.inr f205))))), (q19_4, .inr (3, [.ref q5_23_4, .ref q16_23_4, .ref q28_23_4])), (q5_23_4, .inr (1, [.ref q8_9_23_4, .int u206])), (q8_9_23_4, .inl (k8_9_23_4, 10007, .inl f207)), (q16_23_4, .inr (2, [.ref q8_20_23_4, .ref q17_20_23_4, .null, .int u208, .int u209, .int u210])), (q8_20_23_4, .inl (k8_20_23_4, 10007, .inl f211)), (q17_20_23_4, .inl (k17_20_23_4, 128, .inl f212)), (q28_23_4, .inl (k28_23_4, 4, .inl f213))]) [0, 1, 2, 3, 4, 5, 6, 7, 8] (by decide) rfl
  have hK := (hK.app hK1).sub (tys' := [(k7_4, .object "PointRings$Curve"), (k8_9_23_4, .int), (k8_20_23_4, .int), (k17_20_23_4, .int), (k28_23_4, .int)]) [0, 1, 2, 3, 4] rfl
  have e9 : (0, (fun _ => none), 0, (fun _ => 0), 1, 0, (-1), (fun _ => 0), (fun _ => 0), (fun _ => 0)) = (u204, f205, u206, f207, u208, u209, u210, f211, f212, f213) := Option.some.inj (show some (0, (fun _ => none), 0, (fun _ => 0), 1, 0, (-1), (fun _ => 0), (fun _ => 0), (fun _ => 0)) = some (u204, f205, u206, f207, u208, u209, u210, f211, f212, f213) from hr203)
  clear hr203
  cases e9
  refine lv_astore_n (lv' := [(1, .ref q0), (0, .ref b)]) hx hb dL_law_7 rfl hl (by decide) rfl (fun ls hl => ?_)
  refine va_new (ci := 5) (fs := [.int 0, .int 0, .int 0, .null, .null, .int 0, .null, .int 0, .null, .int 0, .null, .null, .null, .null, .null, .null, .null, .null]) (C := RX6) (T := TX6) (N := 18) hx hb hts (by decide +kernel) tyX6 tyX6_ok hown (hts (.classLink R_law 10 RX6) (by decide +kernel)) (hts (.instantiable RX6 18) (by decide +kernel)) (hts (.initialized RX6) (by decide +kernel)) hK hP hD hS hA0 rfl (fun j hj => by rcases (show j = 0 ∨ j = 1 ∨ j = 2 ∨ j = 3 ∨ j = 4 ∨ j = 5 ∨ j = 6 ∨ j = 7 ∨ j = 8 ∨ j = 9 ∨ j = 10 ∨ j = 11 ∨ j = 12 ∨ j = 13 ∨ j = 14 ∨ j = 15 ∨ j = 16 ∨ j = 17 by omega) with rfl | rfl | rfl | rfl | rfl | rfl | rfl | rfl | rfl | rfl | rfl | rfl | rfl | rfl | rfl | rfl | rfl | rfl <;> rfl) (by decide +kernel) (by decide +kernel) dL_law_8 (fun q8 H hP hD hS => ?_)
  have hP : va_P (dC, dI) vwCl [(q0, .inr (4, [.ref q7_4, .int 0, .ref q19_4])), (q7_4, .inl (k7_4, 24, .inr (.inr (.inr (.inr (fun _ => none)))))), (q19_4, .inr (3, [.ref q5_23_4, .ref q16_23_4, .ref q28_23_4])), (q5_23_4, .inr (1, [.ref q8_9_23_4, .int 0])), (q8_9_23_4, .inl (k8_9_23_4, 10007, .inl (fun _ => 0))), (q16_23_4, .inr (2, [.ref q8_20_23_4, .ref q17_20_23_4, .null, .int 1, .int 0, .int (-1)])), (q8_20_23_4, .inl (k8_20_23_4, 10007, .inl (fun _ => 0))), (q17_20_23_4, .inl (k17_20_23_4, 128, .inl (fun _ => 0))), (q28_23_4, .inl (k28_23_4, 4, .inl (fun _ => 0))), (q8, .inr (5, [.int 0, .int 0, .int 0, .null, .null, .int 0, .null, .int 0, .null, .int 0, .null, .null, .null, .null, .null, .null, .null, .null]))] H := hP
  have hD : va_D A [(q0, .inr (4, [.ref q7_4, .int 0, .ref q19_4])), (q7_4, .inl (k7_4, 24, .inr (.inr (.inr (.inr (fun _ => none)))))), (q19_4, .inr (3, [.ref q5_23_4, .ref q16_23_4, .ref q28_23_4])), (q5_23_4, .inr (1, [.ref q8_9_23_4, .int 0])), (q8_9_23_4, .inl (k8_9_23_4, 10007, .inl (fun _ => 0))), (q16_23_4, .inr (2, [.ref q8_20_23_4, .ref q17_20_23_4, .null, .int 1, .int 0, .int (-1)])), (q8_20_23_4, .inl (k8_20_23_4, 10007, .inl (fun _ => 0))), (q17_20_23_4, .inl (k17_20_23_4, 128, .inl (fun _ => 0))), (q28_23_4, .inl (k28_23_4, 4, .inl (fun _ => 0))), (q8, .inr (5, [.int 0, .int 0, .int 0, .null, .null, .int 0, .null, .int 0, .null, .int 0, .null, .null, .null, .null, .null, .null, .null, .null]))] := hD
  refine lv_dup hx hb dL_law_11 rfl ?_
  obtain ⟨r214, hr214⟩ : ∃ z, mX6_init N  = some z := l1_t_X6_init N (by omega)
  have hPc := hP.sub (ws' := [(q8, .inr (5, [.int 0, .int 0, .int 0, .null, .null, .int 0, .null, .int 0, .null, .int 0, .null, .null, .null, .null, .null, .null, .null, .null]))]) [9] rfl
  have hDc := hD.sub (ws' := [(q8, .inr (5, [.int 0, .int 0, .int 0, .null, .null, .int 0, .null, .int 0, .null, .int 0, .null, .null, .null, .null, .null, .null, .null, .null]))]) [9] (by decide) rfl
  have hKc := hK.sub (tys' := []) [] rfl
  have hFc := va_free (wc := [(q8, .inr (5, [.int 0, .int 0, .int 0, .null, .null, .int 0, .null, .int 0, .null, .int 0, .null, .null, .null, .null, .null, .null, .null, .null]))]) hD hS hA0 [9] rfl
  refine va_callv (va_runI (As := []) (rest := [.ref q8]) ⟨hx, hb, hml, hown, hts⟩ (ctX6_init l N dC dI _ q8 0 0 0 0 0 0 r214 hr214) (cwI 0 hts gL1_X6_init rfl rfl rfl (hts (.initialized RX6) (by decide +kernel)) (hts (.methodLink RL 12 yX6_init) (by decide +kernel)) (hts (.instanceMethod yX6_init) (by decide +kernel)) rfl (by decide +kernel) ⟨Nat.le_of_ble_eq_true rfl, Nat.le_of_ble_eq_true rfl⟩) ⟨fun a U g mk q => by obtain ⟨q0, q1, qP, qK, qN, qD⟩ := q; exact ⟨q0, q1, qP, va_K.moved (u := U) (U := U.calling g mk a) (Vm.Alike.refl U.vm) qK, nw_same (u := U) (U := U.calling g mk a) rfl qN, qD⟩, fun U hU hW => ⟨rfl, by rw [hU], by rw [hU]; exact hPc, va_K.moved hW.alike hKc, nw_warm hW hN, hDc.weaken (fun _ _ _ _ => trivial)⟩⟩ rfl rfl hl.1 rfl (lv_room (Nat.le_of_ble_eq_true rfl)) dL_law_12 ⟨by decide +kernel, by decide +kernel⟩) hS (fun q _ h => hFc q h) hFc (fun u t H1 locs ht hvm hw hB1 hz1 hk1 hS => ?_)
  obtain ⟨f215, f216, f217, f218, f219, f220, f221, f222, f223, f224, f225, f226⟩ := u
  obtain ⟨q8_12, k8_12, q17_12, k17_12, q26_12, k26_12, q35_12, k35_12, q43_12, k43_12, q51_12, k51_12, q59_12, k59_12, q67_12, k67_12, q75_12, k75_12, q83_12, k83_12, q92_12, k92_12, q100_12, k100_12, hP1, hK1, hD1⟩ := hB1
  rw [ht] at hP1
  have hK1 := va_K.moved hvm.symm hK1
  subst hw
  obtain ⟨hP, hD⟩ := va_join (wr := [(q0, .inr (4, [.ref q7_4, .int 0, .ref q19_4])), (q7_4, .inl (k7_4, 24, .inr (.inr (.inr (.inr (fun _ => none)))))), (q19_4, .inr (3, [.ref q5_23_4, .ref q16_23_4, .ref q28_23_4])), (q5_23_4, .inr (1, [.ref q8_9_23_4, .int 0])), (q8_9_23_4, .inl (k8_9_23_4, 10007, .inl (fun _ => 0))), (q16_23_4, .inr (2, [.ref q8_20_23_4, .ref q17_20_23_4, .null, .int 1, .int 0, .int (-1)])), (q8_20_23_4, .inl (k8_20_23_4, 10007, .inl (fun _ => 0))), (q17_20_23_4, .inl (k17_20_23_4, 128, .inl (fun _ => 0))), (q28_23_4, .inl (k28_23_4, 4, .inl (fun _ => 0)))]) (w1 := [(q8, .inr (5, [.int 0, .int 0, .int 0, .ref q8_12, .ref q17_12, .int 0, .ref q26_12, .int 0, .ref q35_12, .int 0, .ref q43_12, .ref q51_12, .ref q59_12, .ref q67_12, .ref q75_12, .ref q83_12, .ref q92_12, .ref q100_12])), (q8_12, .inl (k8_12, 10008, .inl f215)), (q17_12, .inl (k17_12, 10008, .inl f216)), (q26_12, .inl (k26_12, 10300, .inl f217)), (q35_12, .inl (k35_12, 10008, .inl f218)), (q43_12, .inl (k43_12, 24, .inl f219)), (q51_12, .inl (k51_12, 24, .inl f220)), (q59_12, .inl (k59_12, 24, .inl f221)), (q67_12, .inl (k67_12, 24, .inl f222)), (q75_12, .inl (k75_12, 24, .inl f223)), (q83_12, .inl (k83_12, 24, .inl f224)), (q92_12, .inl (k92_12, 10300, .inl f225)), (q100_12, .inl (k100_12, 64, .inl f226))]) hP hD [9] [0, 1, 2, 3, 4, 5, 6, 7, 8] rfl rfl (by decide) (by decide) hk1 hFc hP1 hD1
  generalize H1 = H at hP hS ⊢
  have hP := hP.sub (ws' := [(q0, .inr (4, [.ref q7_4, .int 0, .ref q19_4])), (q7_4, .inl (k7_4, 24, .inr (.inr (.inr (.inr (fun _ => none)))))), (q19_4, .inr (3, [.ref q5_23_4, .ref q16_23_4, .ref q28_23_4])), (q5_23_4, .inr (1, [.ref q8_9_23_4, .int 0])), (q8_9_23_4, .inl (k8_9_23_4, 10007, .inl (fun _ => 0))), (q16_23_4, .inr (2, [.ref q8_20_23_4, .ref q17_20_23_4, .null, .int 1, .int 0, .int (-1)])), (q8_20_23_4, .inl (k8_20_23_4, 10007, .inl (fun _ => 0))), (q17_20_23_4, .inl (k17_20_23_4, 128, .inl (fun _ => 0))), (q28_23_4, .inl (k28_23_4, 4, .inl (fun _ => 0))), (q8, .inr (5, [.int 0, .int 0, .int 0, .ref q8_12, .ref q17_12, .int 0, .ref q26_12, .int 0, .ref q35_12, .int 0, .ref q43_12, .ref q51_12, .ref q59_12, .ref q67_12, .ref q75_12, .ref q83_12, .ref q92_12, .ref q100_12])), (q8_12, .inl (k8_12, 10008, .inl f215)), (q17_12, .inl (k17_12, 10008, .inl f216)), (q26_12, .inl (k26_12, 10300, .inl f217)), (q35_12, .inl (k35_12, 10008, .inl f218)), (q43_12, .inl (k43_12, 24, .inl f219)), (q51_12, .inl (k51_12, 24, .inl f220)), (q59_12, .inl (k59_12, 24, .inl f221)), (q67_12, .inl (k67_12, 24, .inl f222)), (q75_12, .inl (k75_12, 24, .inl f223)), (q83_12, .inl (k83_12, 24, .inl f224)), (q92_12, .inl (k92_12, 10300, .inl f225)), (q100_12, .inl (k100_12, 64, .inl f226))]) [0, 1, 2, 3, 4, 5, 6, 7, 8, 9, 10, 11, 12, 13, 14, 15, 16, 17, 18, 19, 20, 21] rfl
  have hD := hD.sub (ws' := [(q0, .inr (4, [.ref q7_4, .int 0, .ref q19_4])), (q7_4, .inl (k7_4, 24, .inr (.inr (.inr (.inr (fun _ => none)))))), (q19_4, .inr (3, [.ref q5_23_4, .ref q16_23_4, .ref q28_23_4])), (q5_23_4, .inr (1, [.ref q8_9_23_4, .int 0])), (q8_9_23_4, .inl (k8_9_23_4, 10007, .inl (fun _ => 0))), (q16_23_4, .inr (2, [.ref q8_20_23_4, .ref q17_20_23_4, .null, .int 1, .int 0, .int (-1)])), (q8_20_23_4, .inl (k8_20_23_4, 10007, .inl (fun _ => 0))), (q17_20_23_4, .inl (k17_20_23_4, 128, .inl (fun _ => 0))), (q28_23_4, .inl (k28_23_4, 4, .inl (fun _ => 0))), (q8, .inr (5, [.int 0, .int 0, .int 0, .ref q8_12, .ref q17_12, .int 0, .ref q26_12, .int 0, .ref q35_12, .int 0, .ref q43_12, .ref q51_12, .ref q59_12, .ref q67_12, .ref q75_12, .ref q83_12, .ref q92_12, .ref q100_12])), (q8_12, .inl (k8_12, 10008, .inl f215)), (q17_12, .inl (k17_12, 10008, .inl f216)), (q26_12, .inl (k26_12, 10300, .inl f217)), (q35_12, .inl (k35_12, 10008, .inl f218)), (q43_12, .inl (k43_12, 24, .inl f219)), (q51_12, .inl (k51_12, 24, .inl f220)), (q59_12, .inl (k59_12, 24, .inl f221)), (q67_12, .inl (k67_12, 24, .inl f222)), (q75_12, .inl (k75_12, 24, .inl f223)), (q83_12, .inl (k83_12, 24, .inl f224)), (q92_12, .inl (k92_12, 10300, .inl f225)), (q100_12, .inl (k100_12, 64, .inl f226))]) [0, 1, 2, 3, 4, 5, 6, 7, 8, 9, 10, 11, 12, 13, 14, 15, 16, 17, 18, 19, 20, 21] (by decide) rfl
  have hK := (hK.app hK1).sub (tys' := [(k7_4, .object "PointRings$Curve"), (k8_9_23_4, .int), (k8_20_23_4, .int), (k17_20_23_4, .int), (k28_23_4, .int), (k8_12, .int), (k17_12, .int), (k26_12, .int), (k35_12, .int), (k43_12, .int), (k51_12, .int), (k59_12, .int), (k67_12, .int), (k75_12, .int), (k83_12, .int), (k92_12, .boolean), (k100_12, .boolean)]) [0, 1, 2, 3, 4, 5, 6, 7, 8, 9, 10, 11, 12, 13, 14, 15, 16] rfl
  have e9 : ((fun _ => 0), (fun _ => 0), (fun _ => 0), (fun _ => 0), (fun _ => 0), (fun _ => 0), (fun _ => 0), (fun _ => 0), (fun _ => 0), (fun _ => 0), (fun _ => 0), (fun _ => 0)) = (f215, f216, f217, f218, f219, f220, f221, f222, f223, f224, f225, f226) := Option.some.inj (show some ((fun _ => 0), (fun _ => 0), (fun _ => 0), (fun _ => 0), (fun _ => 0), (fun _ => 0), (fun _ => 0), (fun _ => 0), (fun _ => 0), (fun _ => 0), (fun _ => 0), (fun _ => 0)) = some (f215, f216, f217, f218, f219, f220, f221, f222, f223, f224, f225, f226) from hr214)
  clear hr214
  cases e9
  refine lv_astore_n (lv' := [(2, .ref q8), (1, .ref q0), (0, .ref b)]) hx hb dL_law_15 rfl hl (by decide) rfl (fun ls hl => ?_)
  refine lv_iconst (v := 0) hx hb dL_law_16 (by decide) ?_
  refine lv_istore_n (lv' := [(3, .int 0), (2, .ref q8), (1, .ref q0), (0, .ref b)]) hx hb dL_law_17 rfl hl (by decide) rfl (fun ls hl => ?_)
  have hP : va_P (dC, dI) vwCl (wX q0 q7_4 q19_4 q5_23_4 q8_9_23_4 q16_23_4 q8_20_23_4 q17_20_23_4 q28_23_4 q8 q8_12 q17_12 q26_12 q35_12 q43_12 q51_12 q59_12 q67_12 q75_12 q83_12 q92_12 q100_12 k7_4 k8_9_23_4 k8_20_23_4 k17_20_23_4 k28_23_4 k8_12 k17_12 k26_12 k35_12 k43_12 k51_12 k59_12 k67_12 k75_12 k83_12 k92_12 k100_12 0 (fun _ => none) 0 (fun _ => 0) none 1 0 (-1) (fun _ => 0) (fun _ => 0) (fun _ => 0) 0 0 0 0 0 0 (fun _ => 0) (fun _ => 0) (fun _ => 0) (fun _ => 0) (fun _ => 0) (fun _ => 0) (fun _ => 0) (fun _ => 0) (fun _ => 0) (fun _ => 0) (fun _ => 0) (fun _ => 0) ++ va_pl [] (fun _ => .inr (0, []))) H := by rw [show va_pl [] (fun _ => (.inr (0, []) : va_E)) = [] from rfl, List.append_nil]; exact hP
  have hD : va_D A (wX q0 q7_4 q19_4 q5_23_4 q8_9_23_4 q16_23_4 q8_20_23_4 q17_20_23_4 q28_23_4 q8 q8_12 q17_12 q26_12 q35_12 q43_12 q51_12 q59_12 q67_12 q75_12 q83_12 q92_12 q100_12 k7_4 k8_9_23_4 k8_20_23_4 k17_20_23_4 k28_23_4 k8_12 k17_12 k26_12 k35_12 k43_12 k51_12 k59_12 k67_12 k75_12 k83_12 k92_12 k100_12 0 (fun _ => none) 0 (fun _ => 0) none 1 0 (-1) (fun _ => 0) (fun _ => 0) (fun _ => 0) 0 0 0 0 0 0 (fun _ => 0) (fun _ => 0) (fun _ => 0) (fun _ => 0) (fun _ => 0) (fun _ => 0) (fun _ => 0) (fun _ => 0) (fun _ => 0) (fun _ => 0) (fun _ => 0) (fun _ => 0) ++ va_pl [] (fun _ => .inr (0, []))) := by rw [show va_pl [] (fun _ => (.inr (0, []) : va_E)) = [] from rfl, List.append_nil]; exact hD
  exact lawW_loop hL C0 hN1 dC dI q0 q7_4 q19_4 q5_23_4 q8_9_23_4 q16_23_4 q8_20_23_4 q17_20_23_4 q28_23_4 q8 q8_12 q17_12 q26_12 q35_12 q43_12 q51_12 q59_12 q67_12 q75_12 q83_12 q92_12 q100_12 k7_4 k8_9_23_4 k8_20_23_4 k17_20_23_4 k28_23_4 k8_12 k17_12 k26_12 k35_12 k43_12 k51_12 k59_12 k67_12 k75_12 k83_12 k92_12 k100_12 hAe hN (hK.sub [0, 1, 2, 3, 4, 5, 6, 7, 8, 9, 10, 11, 12, 13, 14, 15, 16] rfl) 513 0 0 _ _ _ _ ls (by omega) (by omega) rfl (by omega) (by omega) (wOK_mk (RW_start _) hP hD hS) (lv_sub hl [3, 2, 1, 0] rfl)
-- ===== YOUR PART ENDS =====
set_option maxHeartbeats 4000000 in
theorem lw_walk (l : Launch) (b : Addr) (xs : List Int32) : MetFree l x (headSpec (Jvm.Cond.code x code maxLocals ret :: tables_1) room_1) (lw_P b xs) (fun _ _ _ _ _ => True) lw_Q := by
  refine MetFree.of_bodyS (code := code) (maxLocals := maxLocals) (ret := ret) (by decide) ?_ ?_
  · intro args s m h hn
    obtain ⟨meth, c, h1, h2, h3, h4, h5, h6, -, -⟩ := Cond.code_spec hn (atoms_spec (ws := Jvm.Cond.code x code maxLocals ret :: tables_1) h _ List.mem_cons_self)
    exact ⟨meth, c, h1, h2, h3, h4, h5, h6⟩
  · intro p e s m args below meth c s₁ B hml0 hP _
    obtain ⟨rfl, hx, hbd, hgv⟩ := hP
    obtain ⟨scr, harrAt, hlist, hof, hsmall⟩ := hx
    obtain ⟨hcb, hkn, -, -⟩ := State.arrayAt?_spec harrAt
    have hown : s.vm.findClass R_law = some m.cls := findClass_of_methodNamed B.named
    have hts0 : ∀ c ∈ (Jvm.Cond.code x code maxLocals ret :: tables_1), c.before #[Value.ref b] s = true := atoms_spec (ws := Jvm.Cond.code x code maxLocals ret :: tables_1) B.pre
    have hts : ∀ w ∈ lw_tbl, w.before #[Value.ref b] s = true := k2_hts_sels lw_privs (fun w hw => hts0 w (List.mem_cons_of_mem _ hw)) lw_privs_ok
    have hml : c.maxLocals = 4 := B.maxLocals_eq (hts0 _ List.mem_cons_self)
    have X₀ : Stand p l e room_1 s m #[Value.ref b] below meth c s₁ [] 0 0 := Stand.of_body B
    have hh0 : s₁.heap = s.heap := by rw [B.state]; rfl
    have hsz : scr.slots.size = xs.length := by rw [← Array.length_toList, hlist, List.length_map]
    have hval : ∀ j : Nat, j < xs.length → scr.slots[j]? = some (.int (xs.getD j 0)) := fun j hj => by
      rw [← Array.getElem?_toList, hlist]
      simp [hj]
    have hbl : b < s.heap.size := (Array.getElem?_eq_some_iff.mp hcb).1
    have hX : va_X b xs.length (fun j => xs.getD j 0) s s.heap := ⟨scr, hcb, hof, hkn, hsz, hval⟩
    have K : W p l e room_1 s m #[Value.ref b] below meth c s₁.heap [] 0 0 (lw_Z below #[Value.ref b] s) (entryFrame m ([Value.ref b] : List Value).toArray 4) := by
      rw [hh0]
      exact whole_start l hbd ⟨B.exec, B.bytes, B.returns, hml, hown, hts, hX, hbl, B.notSynchronized, hgv⟩
    obtain ⟨t, a1, o, b1, b2, b3⟩ := K s₁ rfl X₀
    exact ⟨t, o, a1, b1, b2, b3⟩
theorem lw_pre_spec {args : Array Value} {s : State} (h : (Jvm.Cond.and given_1 narrow_1).before args s = true) (hr : rest_1_c.before args s = true) : ∃ (b : Addr) (xs : List Int32), lw_P b xs args s := by
  have hs := flat_of_before _ h
  have hq := flat_of_before _ hr
  have hc : (Cond.count 1).before args s = true := hs _ (by decide +kernel)
  have harr : (Cond.arrayOf (.arg 0) .int).before args s = true := hs _ (by decide +kernel)
  have hle : (Cond.le (.length (.arg 0)) (.int 3584)).before args s = true := hs _ (by decide +kernel)
  have hlen : (Cond.isInt (.length (.arg 0))).before args s = true := hq _ (by decide +kernel)
  have hall : (Cond.all (.arg 0) (.isInt (.elem (.arg 0) (.index 0)))).before args s = true := hq _ (by decide +kernel)
  obtain ⟨b, xs, hb, hx⟩ := State.ints_of_pre rfl harr hlen hall
  have hsm : xs.length < 2 ^ 31 := hx.choose_spec.2.2.2
  have hev : (Term.length (.arg 0)).eval args s none [] s = some (.int xs.length.toInt32) := hx.length_eval hb
  have hv := Cond.le_ints hev (show (Term.int 3584).eval args s none [] s = some (.int 3584) from rfl)
  have hd : xs.length.toInt32 ≤ 3584 := by
    simpa [Cond.before, Cond.holds, hv] using hle
  have hN : xs.length ≤ 3584 := (Int32.ofNat_le_ofNat hsm (by decide)).mp (show Int32.ofNat xs.length ≤ Int32.ofNat 3584 from hd)
  exact ⟨b, xs, Cond.one_arg hc (show args[0]? = some (.ref b) from hb), hx, hN, h⟩
theorem lw_comes (l : Launch) : Comes l x (Jvm.Cond.code x code maxLocals ret :: tables_1) room_1 (fun tb e args s => Calls_1 tb e args s ∧ rest_1 tb e args s ∧ Pre_1 tb e args s)
    (fun _ _ args s o t => lw_Q args s o t) := by
  intro p e ha hc hk s m args below hf hfit hheap happ hpre
  obtain ⟨b, xs, hP⟩ := lw_pre_spec hpre.2.2 hpre.2.1
  obtain ⟨k, o, h1, h2, h3, hQ⟩ := lw_walk l b xs p e ha hc hk s m args below hf ((Spec.applies_iff_loose hf).mp happ).1 hP trivial
  exact ⟨k, o, h1, h2, h3, hQ⟩
theorem lw_frame {s t : State} {o : Outcome} {args : Array Value} (h : Framed s o t [] 600000 7302250) :
    Framed s o t (fieldLocs frame_1_writes args s ++ arrayLocs frame_1_arrays args s ++ staticLocs frame_1_statics s) 600000 7302250 := h
theorem lw_limb (L : Cond) (hL : ∀ (args : Array Value) (s t : State), L.after args s (.returned (some (.int 1))) t = true) :
    ArmFor flags0 classFile x code maxLocals ret World_1 tables_1 room_1 Calls_1 rest_1 Pre_1
      (fun tb e a s o t => postC L tb e a s o t ∧ Framed s o t (fieldLocs frame_1_writes a s ++ arrayLocs frame_1_arrays a s ++ staticLocs frame_1_statics s) 600000 7302250) := by
  intro l _ _ _ p e ha hc hk s m args below hf hfit hheap happ hpre
  obtain ⟨k, o, h1, h2, h3, rfl, hF⟩ := lw_comes l p e ha hc hk s m args below hf hfit hheap happ hpre
  exact ⟨k, _, h1, h2, h3, hL args s _, lw_frame hF⟩
theorem i_vc : Claimed_1_1 ∧ Claimed_1_2 := ⟨lw_limb limb_1_1 (fun args s t => by simp [limb_1_1, Cond.after, Cond.holds, Cond.value]), lw_limb limb_1_2 (fun args s t => Cond.after_iff.mpr (by
  first | (rw [show limb_1_2 = Cond.eq .result (.int 1) from rfl, Cond.eq_ints (x := 1) (y := 1) rfl rfl]; simp; done) | (simp [limb_1_2, Cond.value, Term.eval]; done)))⟩
