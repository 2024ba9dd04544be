set_option maxHeartbeats 4000000 in
set_option maxRecDepth 100000 in
theorem lawW_out {p : Program} {l : Launch} {e : Env} {s : State} {m : MethodId} {below : List Frame} {meth : Method} {c : Code} {b L : Nat} {xs : Nat → Int32} (C0 : lw_At p s m meth c b L xs) {A : Nat → Prop} (hAe : A = fun q => s.heap.size ≤ q) {H : Heap} {locs : List Loc} {cells slots : Nat} (hcs : cells ≤ 600000) (hss : slots ≤ 7302250) (hS : va_S A s.heap H locs) (ls : Array Slot) : W p l e room_1 s m #[Value.ref b] below meth c H locs cells slots (lw_Z below #[Value.ref b] s) (F0 m 1745 ls []) := by
  obtain ⟨hx, hb, hr, hml, hown, hts, hX, hbl, hlocks, hgv⟩ := id C0
  have hbA : ¬ A b := by rw [hAe]; exact Nat.not_le.mpr hbl
  have hA0 : ∀ q : Nat, s.heap.size ≤ q → A q := fun q h => by rw [hAe]; exact h
  subst hAe
  refine lv_iconst (v := 1) hx hb dL_law_1745 (by decide) ?_
  refine va_forget (fun q hq => hS.2.2 q hq) ?_
  refine W.widen (k := 600000) (n := 7302250) hcs hss ?_
  exact lw_ret hx hb hr hlocks dL_law_1746
theorem wl_head {L I : Nat} {i : Int32} (ei : i = nI I) (hL : L ≤ 3584) (hI : I ≤ 4000) (h : ¬ Int32.ofNat L - 7 < i) : I + 7 ≤ L := by
  have e : Int32.ofNat L - 7 = zI ((L : Int) - 7) := by
    show nI L - 7 = _
    rw [nI_zI, show (7 : Int32) = zI 7 from rfl, zI_sub]
  rw [e, ei, Int32.lt_iff_toInt_lt, zI_toInt (by omega) (by omega), nI_toInt (by omega)] at h
  omega
set_option maxHeartbeats 4000000 in
set_option maxRecDepth 100000 in
theorem lawW_loop {p : Program} {l : Launch} {e : Env} {s : State} {m : MethodId} {below : List Frame} {meth : Method} {c : Code} {b L : Nat} {xs : Nat → Int32} (hL : L ≤ 3584) (C0 : lw_At p s m meth c b L xs) {N : Nat} (hN1 : 2 ^ 64 ≤ N) (dC : Nat → ClassId) (dI : Nat → Nat → Nat) (q0 x_q7 x_q19 x_q5_23 x_q8_9_23 x_q16_23 x_q8_20_23 x_q17_20_23 x_q28_23 q8 y_q8 y_q17 y_q26 y_q35 y_q43 y_q51 y_q59 y_q67 y_q75 y_q83 y_q92 y_q100 : Nat) (x_k7 x_k8_9_23 x_k8_20_23 x_k17_20_23 x_k28_23 y_k8 y_k17 y_k26 y_k35 y_k43 y_k51 y_k59 y_k67 y_k75 y_k83 y_k92 y_k100 : ClassId) {A : Nat → Prop} (hAe : A = fun q => s.heap.size ≤ q) (hN : nw_all s) (hK : va_K (dC, dI) vwCl [(x_k7, .object "PointRings$Curve"), (x_k8_9_23, .int), (x_k8_20_23, .int), (x_k17_20_23, .int), (x_k28_23, .int), (y_k8, .int), (y_k17, .int), (y_k26, .int), (y_k35, .int), (y_k43, .int), (y_k51, .int), (y_k59, .int), (y_k67, .int), (y_k75, .int), (y_k83, .int), (y_k92, .boolean), (y_k100, .boolean)] s) : ∀ (k c9 : Nat) (i9 : Int32) (cells slots : Nat) (H : Heap) (locs : List Loc) (ls : Array Slot), 513 ≤ c9 + k → c9 ≤ 514 → i9 = nI (7 * c9) → cells ≤ 22 + c9 → slots ≤ 71035 + 12 * c9 → wOK dC dI q0 x_q7 x_q19 x_q5_23 x_q8_9_23 x_q16_23 x_q8_20_23 x_q17_20_23 x_q28_23 q8 y_q8 y_q17 y_q26 y_q35 y_q43 y_q51 y_q59 y_q67 y_q75 y_q83 y_q92 y_q100 x_k7 x_k8_9_23 x_k8_20_23 x_k17_20_23 x_k28_23 y_k8 y_k17 y_k26 y_k35 y_k43 y_k51 y_k59 y_k67 y_k75 y_k83 y_k92 y_k100 A s H locs → lv_has ls 4 [(0, .ref b), (1, .ref q0), (2, .ref q8), (3, .int i9)] → W p l e room_1 s m #[Value.ref b] below meth c H locs cells slots (lw_Z below #[Value.ref b] s) (F0 m 18 ls []) := by
  obtain ⟨hx, hb, hr, hml, hown, hts, hX, hbl, hlocks, hgv⟩ := id C0
  have hbA : ¬ A b := by rw [hAe]; exact Nat.not_le.mpr hbl
  have hA0 : ∀ q : Nat, s.heap.size ≤ q → A q := fun q h => by rw [hAe]; exact h
  intro k
  induction k with
  | zero =>
    intro c9 i9 cells slots H locs ls h513 h514 ei hcs hss hW hl
    have hS : va_S A s.heap H locs := by obtain ⟨_, _, _, _, _, _, _, _, _, _, _, _, _, _, _, _, _, _, _, _, _, _, _, _, _, _, _, _, _, _, _, _, _, _, hS⟩ := hW; exact hS
    refine lv_iload_n hx hb dL_law_18 rfl (lv_at hl 3 rfl) ?_
    refine lv_aload_n hx hb dL_law_19 rfl (lv_at hl 0 rfl) ?_
    refine va_slen hx hb hX hbl hbA hS dL_law_20 ?_
    refine lv_bipush (v := 7) hx hb dL_law_21 (by decide) ?_
    refine lv_isub hx hb dL_law_23 ?_
    refine lv_icmp_gt (tgt := 1745) hx hb dL_law_24 (by decide) (fun c1 => ?_) (fun c1 => ?_)
    · exact lawW_out C0 hAe (by omega) (by omega) hS ls
    · have := wl_head ei hL (by omega) c1
      omega
  | succ k ih =>
    intro c9 i9 cells slots H locs ls h513 h514 ei hcs hss hW hl
    have hS : va_S A s.heap H locs := by obtain ⟨_, _, _, _, _, _, _, _, _, _, _, _, _, _, _, _, _, _, _, _, _, _, _, _, _, _, _, _, _, _, _, _, _, _, hS⟩ := hW; exact hS
    refine lv_iload_n hx hb dL_law_18 rfl (lv_at hl 3 rfl) ?_
    refine lv_aload_n hx hb dL_law_19 rfl (lv_at hl 0 rfl) ?_
    refine va_slen hx hb hX hbl hbA hS dL_law_20 ?_
    refine lv_bipush (v := 7) hx hb dL_law_21 (by decide) ?_
    refine lv_isub hx hb dL_law_23 ?_
    refine lv_icmp_gt (tgt := 1745) hx hb dL_law_24 (by decide) (fun c1 => ?_) (fun c1 => ?_)
    · exact lawW_out C0 hAe (by omega) (by omega) hS ls
    · have hI9 := wl_head ei hL (by omega) c1
      have Co : ∀ (H1 : Heap) (locs1 : List Loc) (cells1 slots1 : Nat) (ls1 : Array Slot), wOK dC dI q0 x_q7 x_q19 x_q5_23 x_q8_9_23 x_q16_23 x_q8_20_23 x_q17_20_23 x_q28_23 q8 y_q8 y_q17 y_q26 y_q35 y_q43 y_q51 y_q59 y_q67 y_q75 y_q83 y_q92 y_q100 x_k7 x_k8_9_23 x_k8_20_23 x_k17_20_23 x_k28_23 y_k8 y_k17 y_k26 y_k35 y_k43 y_k51 y_k59 y_k67 y_k75 y_k83 y_k92 y_k100 A s H1 locs1 → lv_has ls1 4 [(0, .ref b), (1, .ref q0), (2, .ref q8), (3, .int i9)] → cells1 ≤ cells + 1 → slots1 ≤ slots + 12 → W p l e room_1 s m #[Value.ref b] below meth c H1 locs1 cells1 slots1 (lw_Z below #[Value.ref b] s) (F0 m 1739 ls1 []) := fun H1 locs1 cells1 slots1 ls1 hW1 hl1 hc1 hs1 => by
        obtain ⟨i7, ei7⟩ : ∃ z : Int32, z = i9 + 7 := ⟨_, rfl⟩
        refine lv_iinc (v := i7) (lv' := [(3, .int i7), (0, .ref b), (1, .ref q0), (2, .ref q8)]) hx hb dL_law_1739 hl1 (k := 3) rfl (by rw [ei7]; rfl) (by decide) rfl (fun ls2 hl2 => ?_)
        refine lv_goto (tgt := 18) hx hb dL_law_1742 (by decide) ?_
        exact ih (c9 + 1) i7 cells1 slots1 H1 locs1 ls2 (by omega) (by omega) (by rw [ei7, ei, show (7 : Int32) = nI 7 from rfl, nI_add, Nat.mul_add, Nat.mul_one]) (by omega) (by omega) hW1 (lv_sub hl2 [1, 2, 3, 0] rfl)
      refine lv_aload_n hx hb dL_law_27 rfl (lv_at hl 0 rfl) ?_
      refine lv_iload_n hx hb dL_law_28 rfl (lv_at hl 3 rfl) ?_
      refine va_sld hx hb hX hbl hbA hS (wl_in0 ei hI9 hL) dL_law_29 ?_
      refine lv_bipush (v := 63) hx hb dL_law_30 (by decide) ?_
      refine lv_iand hx hb dL_law_32 ?_
      refine lv_topi (fun k9 ek9 => ?_)
      clear ek9
      by_cases c2_0 : k9 = 0
      · refine lv_tableIn (off := 175) (tgt := 208) hx hb dL_law_33 (by rw [c2_0]; decide) (by rw [c2_0]; decide) (by rw [c2_0]; rfl) (by decide) ?_
        exact lawW_c0 hL C0 hN1 dC dI q0 x_q7 x_q19 x_q5_23 x_q8_9_23 x_q16_23 x_q8_20_23 x_q17_20_23 x_q28_23 q8 y_q8 y_q17 y_q26 y_q35 y_q43 y_q51 y_q59 y_q67 y_q75 y_q83 y_q92 y_q100 x_k7 x_k8_9_23 x_k8_20_23 x_k17_20_23 x_k28_23 y_k8 y_k17 y_k26 y_k35 y_k43 y_k51 y_k59 y_k67 y_k75 y_k83 y_k92 y_k100 hAe hN hK ei hI9 (by omega) (by omega) Co H locs ls hW hl
      · skip
        by_cases c2_1 : k9 = 1
        · refine lv_tableIn (off := 218) (tgt := 251) hx hb dL_law_33 (by rw [c2_1]; decide) (by rw [c2_1]; decide) (by rw [c2_1]; rfl) (by decide) ?_
          exact lawW_c1 hL C0 hN1 dC dI q0 x_q7 x_q19 x_q5_23 x_q8_9_23 x_q16_23 x_q8_20_23 x_q17_20_23 x_q28_23 q8 y_q8 y_q17 y_q26 y_q35 y_q43 y_q51 y_q59 y_q67 y_q75 y_q83 y_q92 y_q100 x_k7 x_k8_9_23 x_k8_20_23 x_k17_20_23 x_k28_23 y_k8 y_k17 y_k26 y_k35 y_k43 y_k51 y_k59 y_k67 y_k75 y_k83 y_k92 y_k100 hAe hN hK ei hI9 (by omega) (by omega) Co H locs ls hW hl
        · skip
          by_cases c2_2 : k9 = 2
          · refine lv_tableIn (off := 251) (tgt := 284) hx hb dL_law_33 (by rw [c2_2]; decide) (by rw [c2_2]; decide) (by rw [c2_2]; rfl) (by decide) ?_
            exact lawW_c2 hL C0 hN1 dC dI q0 x_q7 x_q19 x_q5_23 x_q8_9_23 x_q16_23 x_q8_20_23 x_q17_20_23 x_q28_23 q8 y_q8 y_q17 y_q26 y_q35 y_q43 y_q51 y_q59 y_q67 y_q75 y_q83 y_q92 y_q100 x_k7 x_k8_9_23 x_k8_20_23 x_k17_20_23 x_k28_23 y_k8 y_k17 y_k26 y_k35 y_k43 y_k51 y_k59 y_k67 y_k75 y_k83 y_k92 y_k100 hAe hN hK ei hI9 (by omega) (by omega) Co H locs ls hW hl
          · skip
            by_cases c2_3 : k9 = 3
            · refine lv_tableIn (off := 274) (tgt := 307) hx hb dL_law_33 (by rw [c2_3]; decide) (by rw [c2_3]; decide) (by rw [c2_3]; rfl) (by decide) ?_
              exact lawW_c3 hL C0 hN1 dC dI q0 x_q7 x_q19 x_q5_23 x_q8_9_23 x_q16_23 x_q8_20_23 x_q17_20_23 x_q28_23 q8 y_q8 y_q17 y_q26 y_q35 y_q43 y_q51 y_q59 y_q67 y_q75 y_q83 y_q92 y_q100 x_k7 x_k8_9_23 x_k8_20_23 x_k17_20_23 x_k28_23 y_k8 y_k17 y_k26 y_k35 y_k43 y_k51 y_k59 y_k67 y_k75 y_k83 y_k92 y_k100 hAe hN hK ei hI9 (by omega) (by omega) Co H locs ls hW hl
            · skip
              by_cases c2_4 : k9 = 4
              · refine lv_tableIn (off := 307) (tgt := 340) hx hb dL_law_33 (by rw [c2_4]; decide) (by rw [c2_4]; decide) (by rw [c2_4]; rfl) (by decide) ?_
                exact lawW_c4 hL C0 hN1 dC dI q0 x_q7 x_q19 x_q5_23 x_q8_9_23 x_q16_23 x_q8_20_23 x_q17_20_23 x_q28_23 q8 y_q8 y_q17 y_q26 y_q35 y_q43 y_q51 y_q59 y_q67 y_q75 y_q83 y_q92 y_q100 x_k7 x_k8_9_23 x_k8_20_23 x_k17_20_23 x_k28_23 y_k8 y_k17 y_k26 y_k35 y_k43 y_k51 y_k59 y_k67 y_k75 y_k83 y_k92 y_k100 hAe hN hK ei hI9 (by omega) (by omega) Co H locs ls hW hl
              · skip
                by_cases c2_5 : k9 = 5
                · refine lv_tableIn (off := 350) (tgt := 383) hx hb dL_law_33 (by rw [c2_5]; decide) (by rw [c2_5]; decide) (by rw [c2_5]; rfl) (by decide) ?_
                  exact lawW_c5 hL C0 hN1 dC dI q0 x_q7 x_q19 x_q5_23 x_q8_9_23 x_q16_23 x_q8_20_23 x_q17_20_23 x_q28_23 q8 y_q8 y_q17 y_q26 y_q35 y_q43 y_q51 y_q59 y_q67 y_q75 y_q83 y_q92 y_q100 x_k7 x_k8_9_23 x_k8_20_23 x_k17_20_23 x_k28_23 y_k8 y_k17 y_k26 y_k35 y_k43 y_k51 y_k59 y_k67 y_k75 y_k83 y_k92 y_k100 hAe hN hK ei hI9 (by omega) (by omega) Co H locs ls hW hl
                · skip
                  by_cases c2_6 : k9 = 6
                  · refine lv_tableIn (off := 383) (tgt := 416) hx hb dL_law_33 (by rw [c2_6]; decide) (by rw [c2_6]; decide) (by rw [c2_6]; rfl) (by decide) ?_
                    exact lawW_c6 hL C0 hN1 dC dI q0 x_q7 x_q19 x_q5_23 x_q8_9_23 x_q16_23 x_q8_20_23 x_q17_20_23 x_q28_23 q8 y_q8 y_q17 y_q26 y_q35 y_q43 y_q51 y_q59 y_q67 y_q75 y_q83 y_q92 y_q100 x_k7 x_k8_9_23 x_k8_20_23 x_k17_20_23 x_k28_23 y_k8 y_k17 y_k26 y_k35 y_k43 y_k51 y_k59 y_k67 y_k75 y_k83 y_k92 y_k100 hAe hN hK ei hI9 (by omega) (by omega) Co H locs ls hW hl
                  · skip
                    by_cases c2_7 : k9 = 7
                    · refine lv_tableIn (off := 416) (tgt := 449) hx hb dL_law_33 (by rw [c2_7]; decide) (by rw [c2_7]; decide) (by rw [c2_7]; rfl) (by decide) ?_
                      exact lawW_c7 hL C0 hN1 dC dI q0 x_q7 x_q19 x_q5_23 x_q8_9_23 x_q16_23 x_q8_20_23 x_q17_20_23 x_q28_23 q8 y_q8 y_q17 y_q26 y_q35 y_q43 y_q51 y_q59 y_q67 y_q75 y_q83 y_q92 y_q100 x_k7 x_k8_9_23 x_k8_20_23 x_k17_20_23 x_k28_23 y_k8 y_k17 y_k26 y_k35 y_k43 y_k51 y_k59 y_k67 y_k75 y_k83 y_k92 y_k100 hAe hN hK ei hI9 (by omega) (by omega) Co H locs ls hW hl
                    · skip
                      by_cases c2_8 : k9 = 8
                      · refine lv_tableIn (off := 489) (tgt := 522) hx hb dL_law_33 (by rw [c2_8]; decide) (by rw [c2_8]; decide) (by rw [c2_8]; rfl) (by decide) ?_
                        exact lawW_c8 hL C0 hN1 dC dI q0 x_q7 x_q19 x_q5_23 x_q8_9_23 x_q16_23 x_q8_20_23 x_q17_20_23 x_q28_23 q8 y_q8 y_q17 y_q26 y_q35 y_q43 y_q51 y_q59 y_q67 y_q75 y_q83 y_q92 y_q100 x_k7 x_k8_9_23 x_k8_20_23 x_k17_20_23 x_k28_23 y_k8 y_k17 y_k26 y_k35 y_k43 y_k51 y_k59 y_k67 y_k75 y_k83 y_k92 y_k100 hAe hN hK ei hI9 (by omega) (by omega) Co H locs ls hW hl
                      · skip
                        by_cases c2_9 : k9 = 9
                        · refine lv_tableIn (off := 512) (tgt := 545) hx hb dL_law_33 (by rw [c2_9]; decide) (by rw [c2_9]; decide) (by rw [c2_9]; rfl) (by decide) ?_
                          exact lawW_c9 hL C0 hN1 dC dI q0 x_q7 x_q19 x_q5_23 x_q8_9_23 x_q16_23 x_q8_20_23 x_q17_20_23 x_q28_23 q8 y_q8 y_q17 y_q26 y_q35 y_q43 y_q51 y_q59 y_q67 y_q75 y_q83 y_q92 y_q100 x_k7 x_k8_9_23 x_k8_20_23 x_k17_20_23 x_k28_23 y_k8 y_k17 y_k26 y_k35 y_k43 y_k51 y_k59 y_k67 y_k75 y_k83 y_k92 y_k100 hAe hN hK ei hI9 (by omega) (by omega) Co H locs ls hW hl
                        · skip
                          by_cases c2_10 : k9 = 10
                          · refine lv_tableIn (off := 555) (tgt := 588) hx hb dL_law_33 (by rw [c2_10]; decide) (by rw [c2_10]; decide) (by rw [c2_10]; rfl) (by decide) ?_
                            exact lawW_c10 hL C0 hN1 dC dI q0 x_q7 x_q19 x_q5_23 x_q8_9_23 x_q16_23 x_q8_20_23 x_q17_20_23 x_q28_23 q8 y_q8 y_q17 y_q26 y_q35 y_q43 y_q51 y_q59 y_q67 y_q75 y_q83 y_q92 y_q100 x_k7 x_k8_9_23 x_k8_20_23 x_k17_20_23 x_k28_23 y_k8 y_k17 y_k26 y_k35 y_k43 y_k51 y_k59 y_k67 y_k75 y_k83 y_k92 y_k100 hAe hN hK ei hI9 (by omega) (by omega) Co H locs ls hW hl
                          · skip
                            by_cases c2_11 : k9 = 11
                            · refine lv_tableIn (off := 614) (tgt := 647) hx hb dL_law_33 (by rw [c2_11]; decide) (by rw [c2_11]; decide) (by rw [c2_11]; rfl) (by decide) ?_
                              exact lawW_c11 hL C0 hN1 dC dI q0 x_q7 x_q19 x_q5_23 x_q8_9_23 x_q16_23 x_q8_20_23 x_q17_20_23 x_q28_23 q8 y_q8 y_q17 y_q26 y_q35 y_q43 y_q51 y_q59 y_q67 y_q75 y_q83 y_q92 y_q100 x_k7 x_k8_9_23 x_k8_20_23 x_k17_20_23 x_k28_23 y_k8 y_k17 y_k26 y_k35 y_k43 y_k51 y_k59 y_k67 y_k75 y_k83 y_k92 y_k100 hAe hN hK ei hI9 (by omega) (by omega) Co H locs ls hW hl
                            · skip
                              by_cases c2_12 : k9 = 12
                              · refine lv_tableIn (off := 647) (tgt := 680) hx hb dL_law_33 (by rw [c2_12]; decide) (by rw [c2_12]; decide) (by rw [c2_12]; rfl) (by decide) ?_
                                exact lawW_c12 hL C0 hN1 dC dI q0 x_q7 x_q19 x_q5_23 x_q8_9_23 x_q16_23 x_q8_20_23 x_q17_20_23 x_q28_23 q8 y_q8 y_q17 y_q26 y_q35 y_q43 y_q51 y_q59 y_q67 y_q75 y_q83 y_q92 y_q100 x_k7 x_k8_9_23 x_k8_20_23 x_k17_20_23 x_k28_23 y_k8 y_k17 y_k26 y_k35 y_k43 y_k51 y_k59 y_k67 y_k75 y_k83 y_k92 y_k100 hAe hN hK ei hI9 (by omega) (by omega) Co H locs ls hW hl
                              · skip
                                by_cases c2_13 : k9 = 13
                                · refine lv_tableIn (off := 680) (tgt := 713) hx hb dL_law_33 (by rw [c2_13]; decide) (by rw [c2_13]; decide) (by rw [c2_13]; rfl) (by decide) ?_
                                  exact lawW_c13 hL C0 hN1 dC dI q0 x_q7 x_q19 x_q5_23 x_q8_9_23 x_q16_23 x_q8_20_23 x_q17_20_23 x_q28_23 q8 y_q8 y_q17 y_q26 y_q35 y_q43 y_q51 y_q59 y_q67 y_q75 y_q83 y_q92 y_q100 x_k7 x_k8_9_23 x_k8_20_23 x_k17_20_23 x_k28_23 y_k8 y_k17 y_k26 y_k35 y_k43 y_k51 y_k59 y_k67 y_k75 y_k83 y_k92 y_k100 hAe hN hK ei hI9 (by omega) (by omega) Co H locs ls hW hl
                                · skip
                                  by_cases c2_14 : k9 = 14
                                  · refine lv_tableIn (off := 713) (tgt := 746) hx hb dL_law_33 (by rw [c2_14]; decide) (by rw [c2_14]; decide) (by rw [c2_14]; rfl) (by decide) ?_
                                    exact lawW_c14 hL C0 hN1 dC dI q0 x_q7 x_q19 x_q5_23 x_q8_9_23 x_q16_23 x_q8_20_23 x_q17_20_23 x_q28_23 q8 y_q8 y_q17 y_q26 y_q35 y_q43 y_q51 y_q59 y_q67 y_q75 y_q83 y_q92 y_q100 x_k7 x_k8_9_23 x_k8_20_23 x_k17_20_23 x_k28_23 y_k8 y_k17 y_k26 y_k35 y_k43 y_k51 y_k59 y_k67 y_k75 y_k83 y_k92 y_k100 hAe hN hK ei hI9 (by omega) (by omega) Co H locs ls hW hl
                                  · skip
                                    by_cases c2_15 : k9 = 15
                                    · refine lv_tableIn (off := 756) (tgt := 789) hx hb dL_law_33 (by rw [c2_15]; decide) (by rw [c2_15]; decide) (by rw [c2_15]; rfl) (by decide) ?_
                                      exact lawW_c15 hL C0 hN1 dC dI q0 x_q7 x_q19 x_q5_23 x_q8_9_23 x_q16_23 x_q8_20_23 x_q17_20_23 x_q28_23 q8 y_q8 y_q17 y_q26 y_q35 y_q43 y_q51 y_q59 y_q67 y_q75 y_q83 y_q92 y_q100 x_k7 x_k8_9_23 x_k8_20_23 x_k17_20_23 x_k28_23 y_k8 y_k17 y_k26 y_k35 y_k43 y_k51 y_k59 y_k67 y_k75 y_k83 y_k92 y_k100 hAe hN hK ei hI9 (by omega) (by omega) Co H locs ls hW hl
                                    · skip
                                      by_cases c2_16 : k9 = 16
                                      · refine lv_tableIn (off := 789) (tgt := 822) hx hb dL_law_33 (by rw [c2_16]; decide) (by rw [c2_16]; decide) (by rw [c2_16]; rfl) (by decide) ?_
                                        exact lawW_c16 hL C0 hN1 dC dI q0 x_q7 x_q19 x_q5_23 x_q8_9_23 x_q16_23 x_q8_20_23 x_q17_20_23 x_q28_23 q8 y_q8 y_q17 y_q26 y_q35 y_q43 y_q51 y_q59 y_q67 y_q75 y_q83 y_q92 y_q100 x_k7 x_k8_9_23 x_k8_20_23 x_k17_20_23 x_k28_23 y_k8 y_k17 y_k26 y_k35 y_k43 y_k51 y_k59 y_k67 y_k75 y_k83 y_k92 y_k100 hAe hN hK ei hI9 (by omega) (by omega) Co H locs ls hW hl
                                      · skip
                                        by_cases c2_17 : k9 = 17
                                        · refine lv_tableIn (off := 862) (tgt := 895) hx hb dL_law_33 (by rw [c2_17]; decide) (by rw [c2_17]; decide) (by rw [c2_17]; rfl) (by decide) ?_
                                          exact lawW_c17 hL C0 hN1 dC dI q0 x_q7 x_q19 x_q5_23 x_q8_9_23 x_q16_23 x_q8_20_23 x_q17_20_23 x_q28_23 q8 y_q8 y_q17 y_q26 y_q35 y_q43 y_q51 y_q59 y_q67 y_q75 y_q83 y_q92 y_q100 x_k7 x_k8_9_23 x_k8_20_23 x_k17_20_23 x_k28_23 y_k8 y_k17 y_k26 y_k35 y_k43 y_k51 y_k59 y_k67 y_k75 y_k83 y_k92 y_k100 hAe hN hK ei hI9 (by omega) (by omega) Co H locs ls hW hl
                                        · skip
                                          by_cases c2_18 : k9 = 18
                                          · refine lv_tableIn (off := 935) (tgt := 968) hx hb dL_law_33 (by rw [c2_18]; decide) (by rw [c2_18]; decide) (by rw [c2_18]; rfl) (by decide) ?_
                                            exact lawW_c18 hL C0 hN1 dC dI q0 x_q7 x_q19 x_q5_23 x_q8_9_23 x_q16_23 x_q8_20_23 x_q17_20_23 x_q28_23 q8 y_q8 y_q17 y_q26 y_q35 y_q43 y_q51 y_q59 y_q67 y_q75 y_q83 y_q92 y_q100 x_k7 x_k8_9_23 x_k8_20_23 x_k17_20_23 x_k28_23 y_k8 y_k17 y_k26 y_k35 y_k43 y_k51 y_k59 y_k67 y_k75 y_k83 y_k92 y_k100 hAe hN hK ei hI9 (by omega) (by omega) Co H locs ls hW hl
                                          · skip
                                            by_cases c2_19 : k9 = 19
                                            · refine lv_tableIn (off := 958) (tgt := 991) hx hb dL_law_33 (by rw [c2_19]; decide) (by rw [c2_19]; decide) (by rw [c2_19]; rfl) (by decide) ?_
                                              exact lawW_c19 hL C0 hN1 dC dI q0 x_q7 x_q19 x_q5_23 x_q8_9_23 x_q16_23 x_q8_20_23 x_q17_20_23 x_q28_23 q8 y_q8 y_q17 y_q26 y_q35 y_q43 y_q51 y_q59 y_q67 y_q75 y_q83 y_q92 y_q100 x_k7 x_k8_9_23 x_k8_20_23 x_k17_20_23 x_k28_23 y_k8 y_k17 y_k26 y_k35 y_k43 y_k51 y_k59 y_k67 y_k75 y_k83 y_k92 y_k100 hAe hN hK ei hI9 (by omega) (by omega) Co H locs ls hW hl
                                            · skip
                                              by_cases c2_20 : k9 = 20
                                              · refine lv_tableIn (off := 992) (tgt := 1025) hx hb dL_law_33 (by rw [c2_20]; decide) (by rw [c2_20]; decide) (by rw [c2_20]; rfl) (by decide) ?_
                                                exact lawW_c20 hL C0 hN1 dC dI q0 x_q7 x_q19 x_q5_23 x_q8_9_23 x_q16_23 x_q8_20_23 x_q17_20_23 x_q28_23 q8 y_q8 y_q17 y_q26 y_q35 y_q43 y_q51 y_q59 y_q67 y_q75 y_q83 y_q92 y_q100 x_k7 x_k8_9_23 x_k8_20_23 x_k17_20_23 x_k28_23 y_k8 y_k17 y_k26 y_k35 y_k43 y_k51 y_k59 y_k67 y_k75 y_k83 y_k92 y_k100 hAe hN hK ei hI9 (by omega) (by omega) Co H locs ls hW hl
                                              · skip
                                                by_cases c2_21 : k9 = 21
                                                · refine lv_tableIn (off := 1025) (tgt := 1058) hx hb dL_law_33 (by rw [c2_21]; decide) (by rw [c2_21]; decide) (by rw [c2_21]; rfl) (by decide) ?_
                                                  exact lawW_c21 hL C0 hN1 dC dI q0 x_q7 x_q19 x_q5_23 x_q8_9_23 x_q16_23 x_q8_20_23 x_q17_20_23 x_q28_23 q8 y_q8 y_q17 y_q26 y_q35 y_q43 y_q51 y_q59 y_q67 y_q75 y_q83 y_q92 y_q100 x_k7 x_k8_9_23 x_k8_20_23 x_k17_20_23 x_k28_23 y_k8 y_k17 y_k26 y_k35 y_k43 y_k51 y_k59 y_k67 y_k75 y_k83 y_k92 y_k100 hAe hN hK ei hI9 (by omega) (by omega) Co H locs ls hW hl
                                                · skip
                                                  by_cases c2_22 : k9 = 22
                                                  · refine lv_tableIn (off := 1058) (tgt := 1091) hx hb dL_law_33 (by rw [c2_22]; decide) (by rw [c2_22]; decide) (by rw [c2_22]; rfl) (by decide) ?_
                                                    exact lawW_c22 hL C0 hN1 dC dI q0 x_q7 x_q19 x_q5_23 x_q8_9_23 x_q16_23 x_q8_20_23 x_q17_20_23 x_q28_23 q8 y_q8 y_q17 y_q26 y_q35 y_q43 y_q51 y_q59 y_q67 y_q75 y_q83 y_q92 y_q100 x_k7 x_k8_9_23 x_k8_20_23 x_k17_20_23 x_k28_23 y_k8 y_k17 y_k26 y_k35 y_k43 y_k51 y_k59 y_k67 y_k75 y_k83 y_k92 y_k100 hAe hN hK ei hI9 (by omega) (by omega) Co H locs ls hW hl
                                                  · skip
                                                    by_cases c2_23 : k9 = 23
                                                    · refine lv_tableIn (off := 1081) (tgt := 1114) hx hb dL_law_33 (by rw [c2_23]; decide) (by rw [c2_23]; decide) (by rw [c2_23]; rfl) (by decide) ?_
                                                      exact lawW_c23 hL C0 hN1 dC dI q0 x_q7 x_q19 x_q5_23 x_q8_9_23 x_q16_23 x_q8_20_23 x_q17_20_23 x_q28_23 q8 y_q8 y_q17 y_q26 y_q35 y_q43 y_q51 y_q59 y_q67 y_q75 y_q83 y_q92 y_q100 x_k7 x_k8_9_23 x_k8_20_23 x_k17_20_23 x_k28_23 y_k8 y_k17 y_k26 y_k35 y_k43 y_k51 y_k59 y_k67 y_k75 y_k83 y_k92 y_k100 hAe hN hK ei hI9 (by omega) (by omega) Co H locs ls hW hl
                                                    · skip
                                                      by_cases c2_24 : k9 = 24
                                                      · refine lv_tableIn (off := 1114) (tgt := 1147) hx hb dL_law_33 (by rw [c2_24]; decide) (by rw [c2_24]; decide) (by rw [c2_24]; rfl) (by decide) ?_
                                                        exact lawW_c24 hL C0 hN1 dC dI q0 x_q7 x_q19 x_q5_23 x_q8_9_23 x_q16_23 x_q8_20_23 x_q17_20_23 x_q28_23 q8 y_q8 y_q17 y_q26 y_q35 y_q43 y_q51 y_q59 y_q67 y_q75 y_q83 y_q92 y_q100 x_k7 x_k8_9_23 x_k8_20_23 x_k17_20_23 x_k28_23 y_k8 y_k17 y_k26 y_k35 y_k43 y_k51 y_k59 y_k67 y_k75 y_k83 y_k92 y_k100 hAe hN hK ei hI9 (by omega) (by omega) Co H locs ls hW hl
                                                      · skip
                                                        by_cases c2_25 : k9 = 25
                                                        · refine lv_tableIn (off := 1147) (tgt := 1180) hx hb dL_law_33 (by rw [c2_25]; decide) (by rw [c2_25]; decide) (by rw [c2_25]; rfl) (by decide) ?_
                                                          exact lawW_c25 hL C0 hN1 dC dI q0 x_q7 x_q19 x_q5_23 x_q8_9_23 x_q16_23 x_q8_20_23 x_q17_20_23 x_q28_23 q8 y_q8 y_q17 y_q26 y_q35 y_q43 y_q51 y_q59 y_q67 y_q75 y_q83 y_q92 y_q100 x_k7 x_k8_9_23 x_k8_20_23 x_k17_20_23 x_k28_23 y_k8 y_k17 y_k26 y_k35 y_k43 y_k51 y_k59 y_k67 y_k75 y_k83 y_k92 y_k100 hAe hN hK ei hI9 (by omega) (by omega) Co H locs ls hW hl
                                                        · skip
                                                          by_cases c2_26 : k9 = 26
                                                          · refine lv_tableIn (off := 1180) (tgt := 1213) hx hb dL_law_33 (by rw [c2_26]; decide) (by rw [c2_26]; decide) (by rw [c2_26]; rfl) (by decide) ?_
                                                            exact lawW_c26 hL C0 hN1 dC dI q0 x_q7 x_q19 x_q5_23 x_q8_9_23 x_q16_23 x_q8_20_23 x_q17_20_23 x_q28_23 q8 y_q8 y_q17 y_q26 y_q35 y_q43 y_q51 y_q59 y_q67 y_q75 y_q83 y_q92 y_q100 x_k7 x_k8_9_23 x_k8_20_23 x_k17_20_23 x_k28_23 y_k8 y_k17 y_k26 y_k35 y_k43 y_k51 y_k59 y_k67 y_k75 y_k83 y_k92 y_k100 hAe hN hK ei hI9 (by omega) (by omega) Co H locs ls hW hl
                                                          · skip
                                                            by_cases c2_27 : k9 = 27
                                                            · refine lv_tableIn (off := 1213) (tgt := 1246) hx hb dL_law_33 (by rw [c2_27]; decide) (by rw [c2_27]; decide) (by rw [c2_27]; rfl) (by decide) ?_
                                                              exact lawW_c27 hL C0 hN1 dC dI q0 x_q7 x_q19 x_q5_23 x_q8_9_23 x_q16_23 x_q8_20_23 x_q17_20_23 x_q28_23 q8 y_q8 y_q17 y_q26 y_q35 y_q43 y_q51 y_q59 y_q67 y_q75 y_q83 y_q92 y_q100 x_k7 x_k8_9_23 x_k8_20_23 x_k17_20_23 x_k28_23 y_k8 y_k17 y_k26 y_k35 y_k43 y_k51 y_k59 y_k67 y_k75 y_k83 y_k92 y_k100 hAe hN hK ei hI9 (by omega) (by omega) Co H locs ls hW hl
                                                            · skip
                                                              by_cases c2_28 : k9 = 28
                                                              · refine lv_tableIn (off := 1246) (tgt := 1279) hx hb dL_law_33 (by rw [c2_28]; decide) (by rw [c2_28]; decide) (by rw [c2_28]; rfl) (by decide) ?_
                                                                exact lawW_c28 hL C0 hN1 dC dI q0 x_q7 x_q19 x_q5_23 x_q8_9_23 x_q16_23 x_q8_20_23 x_q17_20_23 x_q28_23 q8 y_q8 y_q17 y_q26 y_q35 y_q43 y_q51 y_q59 y_q67 y_q75 y_q83 y_q92 y_q100 x_k7 x_k8_9_23 x_k8_20_23 x_k17_20_23 x_k28_23 y_k8 y_k17 y_k26 y_k35 y_k43 y_k51 y_k59 y_k67 y_k75 y_k83 y_k92 y_k100 hAe hN hK ei hI9 (by omega) (by omega) Co H locs ls hW hl
                                                              · skip
                                                                by_cases c2_29 : k9 = 29
                                                                · refine lv_tableIn (off := 1289) (tgt := 1322) hx hb dL_law_33 (by rw [c2_29]; decide) (by rw [c2_29]; decide) (by rw [c2_29]; rfl) (by decide) ?_
                                                                  exact lawW_c29 hL C0 hN1 dC dI q0 x_q7 x_q19 x_q5_23 x_q8_9_23 x_q16_23 x_q8_20_23 x_q17_20_23 x_q28_23 q8 y_q8 y_q17 y_q26 y_q35 y_q43 y_q51 y_q59 y_q67 y_q75 y_q83 y_q92 y_q100 x_k7 x_k8_9_23 x_k8_20_23 x_k17_20_23 x_k28_23 y_k8 y_k17 y_k26 y_k35 y_k43 y_k51 y_k59 y_k67 y_k75 y_k83 y_k92 y_k100 hAe hN hK ei hI9 (by omega) (by omega) Co H locs ls hW hl
                                                                · skip
                                                                  by_cases c2_30 : k9 = 30
                                                                  · refine lv_tableIn (off := 1332) (tgt := 1365) hx hb dL_law_33 (by rw [c2_30]; decide) (by rw [c2_30]; decide) (by rw [c2_30]; rfl) (by decide) ?_
                                                                    exact lawW_c30 hL C0 hN1 dC dI q0 x_q7 x_q19 x_q5_23 x_q8_9_23 x_q16_23 x_q8_20_23 x_q17_20_23 x_q28_23 q8 y_q8 y_q17 y_q26 y_q35 y_q43 y_q51 y_q59 y_q67 y_q75 y_q83 y_q92 y_q100 x_k7 x_k8_9_23 x_k8_20_23 x_k17_20_23 x_k28_23 y_k8 y_k17 y_k26 y_k35 y_k43 y_k51 y_k59 y_k67 y_k75 y_k83 y_k92 y_k100 hAe hN hK ei hI9 (by omega) (by omega) Co H locs ls hW hl
                                                                  · skip
                                                                    by_cases c2_31 : k9 = 31
                                                                    · refine lv_tableIn (off := 1365) (tgt := 1398) hx hb dL_law_33 (by rw [c2_31]; decide) (by rw [c2_31]; decide) (by rw [c2_31]; rfl) (by decide) ?_
                                                                      exact lawW_c31 hL C0 hN1 dC dI q0 x_q7 x_q19 x_q5_23 x_q8_9_23 x_q16_23 x_q8_20_23 x_q17_20_23 x_q28_23 q8 y_q8 y_q17 y_q26 y_q35 y_q43 y_q51 y_q59 y_q67 y_q75 y_q83 y_q92 y_q100 x_k7 x_k8_9_23 x_k8_20_23 x_k17_20_23 x_k28_23 y_k8 y_k17 y_k26 y_k35 y_k43 y_k51 y_k59 y_k67 y_k75 y_k83 y_k92 y_k100 hAe hN hK ei hI9 (by omega) (by omega) Co H locs ls hW hl
                                                                    · skip
                                                                      by_cases c2_32 : k9 = 32
                                                                      · refine lv_tableIn (off := 1398) (tgt := 1431) hx hb dL_law_33 (by rw [c2_32]; decide) (by rw [c2_32]; decide) (by rw [c2_32]; rfl) (by decide) ?_
                                                                        exact lawW_c32 hL C0 hN1 dC dI q0 x_q7 x_q19 x_q5_23 x_q8_9_23 x_q16_23 x_q8_20_23 x_q17_20_23 x_q28_23 q8 y_q8 y_q17 y_q26 y_q35 y_q43 y_q51 y_q59 y_q67 y_q75 y_q83 y_q92 y_q100 x_k7 x_k8_9_23 x_k8_20_23 x_k17_20_23 x_k28_23 y_k8 y_k17 y_k26 y_k35 y_k43 y_k51 y_k59 y_k67 y_k75 y_k83 y_k92 y_k100 hAe hN hK ei hI9 (by omega) (by omega) Co H locs ls hW hl
                                                                      · skip
                                                                        by_cases c2_33 : k9 = 33
                                                                        · refine lv_tableIn (off := 1431) (tgt := 1464) hx hb dL_law_33 (by rw [c2_33]; decide) (by rw [c2_33]; decide) (by rw [c2_33]; rfl) (by decide) ?_
                                                                          exact lawW_c33 hL C0 hN1 dC dI q0 x_q7 x_q19 x_q5_23 x_q8_9_23 x_q16_23 x_q8_20_23 x_q17_20_23 x_q28_23 q8 y_q8 y_q17 y_q26 y_q35 y_q43 y_q51 y_q59 y_q67 y_q75 y_q83 y_q92 y_q100 x_k7 x_k8_9_23 x_k8_20_23 x_k17_20_23 x_k28_23 y_k8 y_k17 y_k26 y_k35 y_k43 y_k51 y_k59 y_k67 y_k75 y_k83 y_k92 y_k100 hAe hN hK ei hI9 (by omega) (by omega) Co H locs ls hW hl
                                                                        · skip
                                                                          by_cases c2_34 : k9 = 34
                                                                          · refine lv_tableIn (off := 1464) (tgt := 1497) hx hb dL_law_33 (by rw [c2_34]; decide) (by rw [c2_34]; decide) (by rw [c2_34]; rfl) (by decide) ?_
                                                                            exact lawW_c34 hL C0 hN1 dC dI q0 x_q7 x_q19 x_q5_23 x_q8_9_23 x_q16_23 x_q8_20_23 x_q17_20_23 x_q28_23 q8 y_q8 y_q17 y_q26 y_q35 y_q43 y_q51 y_q59 y_q67 y_q75 y_q83 y_q92 y_q100 x_k7 x_k8_9_23 x_k8_20_23 x_k17_20_23 x_k28_23 y_k8 y_k17 y_k26 y_k35 y_k43 y_k51 y_k59 y_k67 y_k75 y_k83 y_k92 y_k100 hAe hN hK ei hI9 (by omega) (by omega) Co H locs ls hW hl
                                                                          · skip
                                                                            by_cases c2_35 : k9 = 35
                                                                            · refine lv_tableIn (off := 1539) (tgt := 1572) hx hb dL_law_33 (by rw [c2_35]; decide) (by rw [c2_35]; decide) (by rw [c2_35]; rfl) (by decide) ?_
                                                                              exact lawW_c35 hL C0 hN1 dC dI q0 x_q7 x_q19 x_q5_23 x_q8_9_23 x_q16_23 x_q8_20_23 x_q17_20_23 x_q28_23 q8 y_q8 y_q17 y_q26 y_q35 y_q43 y_q51 y_q59 y_q67 y_q75 y_q83 y_q92 y_q100 x_k7 x_k8_9_23 x_k8_20_23 x_k17_20_23 x_k28_23 y_k8 y_k17 y_k26 y_k35 y_k43 y_k51 y_k59 y_k67 y_k75 y_k83 y_k92 y_k100 hAe hN hK ei hI9 (by omega) (by omega) Co H locs ls hW hl
                                                                            · skip
                                                                              by_cases c2_36 : k9 = 36
                                                                              · refine lv_tableIn (off := 1614) (tgt := 1647) hx hb dL_law_33 (by rw [c2_36]; decide) (by rw [c2_36]; decide) (by rw [c2_36]; rfl) (by decide) ?_
                                                                                exact lawW_c36 hL C0 hN1 dC dI q0 x_q7 x_q19 x_q5_23 x_q8_9_23 x_q16_23 x_q8_20_23 x_q17_20_23 x_q28_23 q8 y_q8 y_q17 y_q26 y_q35 y_q43 y_q51 y_q59 y_q67 y_q75 y_q83 y_q92 y_q100 x_k7 x_k8_9_23 x_k8_20_23 x_k17_20_23 x_k28_23 y_k8 y_k17 y_k26 y_k35 y_k43 y_k51 y_k59 y_k67 y_k75 y_k83 y_k92 y_k100 hAe hN hK ei hI9 (by omega) (by omega) Co H locs ls hW hl
                                                                              · skip
                                                                                by_cases c2_37 : k9 = 37
                                                                                · refine lv_tableIn (off := 1647) (tgt := 1680) hx hb dL_law_33 (by rw [c2_37]; decide) (by rw [c2_37]; decide) (by rw [c2_37]; rfl) (by decide) ?_
                                                                                  exact lawW_c37 hL C0 hN1 dC dI q0 x_q7 x_q19 x_q5_23 x_q8_9_23 x_q16_23 x_q8_20_23 x_q17_20_23 x_q28_23 q8 y_q8 y_q17 y_q26 y_q35 y_q43 y_q51 y_q59 y_q67 y_q75 y_q83 y_q92 y_q100 x_k7 x_k8_9_23 x_k8_20_23 x_k17_20_23 x_k28_23 y_k8 y_k17 y_k26 y_k35 y_k43 y_k51 y_k59 y_k67 y_k75 y_k83 y_k92 y_k100 hAe hN hK ei hI9 (by omega) (by omega) Co H locs ls hW hl
                                                                                · skip
                                                                                  by_cases c2_38 : k9 = 38
                                                                                  · refine lv_tableIn (off := 1680) (tgt := 1713) hx hb dL_law_33 (by rw [c2_38]; decide) (by rw [c2_38]; decide) (by rw [c2_38]; rfl) (by decide) ?_
                                                                                    exact lawW_c38 hL C0 hN1 dC dI q0 x_q7 x_q19 x_q5_23 x_q8_9_23 x_q16_23 x_q8_20_23 x_q17_20_23 x_q28_23 q8 y_q8 y_q17 y_q26 y_q35 y_q43 y_q51 y_q59 y_q67 y_q75 y_q83 y_q92 y_q100 x_k7 x_k8_9_23 x_k8_20_23 x_k17_20_23 x_k28_23 y_k8 y_k17 y_k26 y_k35 y_k43 y_k51 y_k59 y_k67 y_k75 y_k83 y_k92 y_k100 hAe hN hK ei hI9 (by omega) (by omega) Co H locs ls hW hl
                                                                                  · skip
                                                                                    by_cases c2_39 : k9 = 39
                                                                                    · refine lv_tableIn (off := 1693) (tgt := 1726) hx hb dL_law_33 (by rw [c2_39]; decide) (by rw [c2_39]; decide) (by rw [c2_39]; rfl) (by decide) ?_
                                                                                      exact lawW_c39 hL C0 hN1 dC dI q0 x_q7 x_q19 x_q5_23 x_q8_9_23 x_q16_23 x_q8_20_23 x_q17_20_23 x_q28_23 q8 y_q8 y_q17 y_q26 y_q35 y_q43 y_q51 y_q59 y_q67 y_q75 y_q83 y_q92 y_q100 x_k7 x_k8_9_23 x_k8_20_23 x_k17_20_23 x_k28_23 y_k8 y_k17 y_k26 y_k35 y_k43 y_k51 y_k59 y_k67 y_k75 y_k83 y_k92 y_k100 hAe hN hK ei hI9 (by omega) (by omega) Co H locs ls hW hl
                                                                                    · skip
                                                                                      refine lv_tableOut (tgt := 1739) hx hb dL_law_33 (mi_tab k9 39 40 rfl (by decide) ⟨c2_0, c2_1, c2_2, c2_3, c2_4, c2_5, c2_6, c2_7, c2_8, c2_9, c2_10, c2_11, c2_12, c2_13, c2_14, c2_15, c2_16, c2_17, c2_18, c2_19, c2_20, c2_21, c2_22, c2_23, c2_24, c2_25, c2_26, c2_27, c2_28, c2_29, c2_30, c2_31, c2_32, c2_33, c2_34, c2_35, c2_36, c2_37, c2_38, c2_39, trivial⟩) (by decide) ?_
                                                                                      exact Co H locs cells slots ls hW hl (by omega) (by omega)
theorem RW_start (F : Nat → va_E) : RW 0 (fun _ => none) 0 (fun _ => 0) 0 (fun _ => 0) (fun _ => 0) 0 0 0 0 0 0 (fun _ => 0) (fun _ => 0) (fun _ => 0) (fun _ => 0) (fun _ => 0) (fun _ => 0) (fun _ => 0) (fun _ => 0) (fun _ => 0) (fun _ => 0) [] F :=
  ⟨0, rfl, rfl, ⟨fun _ => 0, fun _ => 0, fun _ => 0, fun _ => 0, fun _ => 0, fun _ => 0, fun _ => 0, by omega, fun i j hi => by omega, fun i hi => by omega⟩, Or.inl rfl, ⟨0, rfl, by omega, fun i h1 h2 => by omega, fun x hx hn => absurd rfl hn⟩, Or.inl ⟨rfl, Or.inl rfl⟩⟩
