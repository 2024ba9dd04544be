theorem prm_least {d l : Nat} (h2 : 2 ≤ d) (dl : d ∣ l) (no : ∀ e, 2 ≤ e → e < d → ¬ e ∣ l) : prm d := by
  refine ⟨h2, fun e he => ?_⟩
  have e0 : 0 < e := Nat.pos_of_dvd_of_pos he (by omega)
  have el := Nat.le_of_dvd (by omega) he
  by_cases c1 : e = 1
  · exact Or.inl c1
  · by_cases c2 : e = d
    · exact Or.inr c2
    · exact absurd (Nat.dvd_trans he dl) (no e (by omega) (by omega))
theorem ordR23 {F : Type} [mFld F] {P A B : Nat} {φ : Int → F} (hc : CX F P A B φ) {N : Nat} (hN : 2 ^ 64 ≤ N) {f : Nat → Int32} (hf : invOK P f) {u : Int32} {U : EP (φ A) (φ B)} (hu : pe P φ u U.1) {o : Nat} (ho : isOrd (gO hc) ez o U) {d : Nat} (hd2 : 2 ≤ d) (hd : d ≤ 10301) {n l k : Nat} (hn : n ≤ 10300) (e0 : n = o * k) (hk : k ∣ l) (hln : l ∣ n) (k0 : 0 < k) (l0 : 0 < l) (no : ∀ e, 2 ≤ e → e < d → ¬ e ∣ l) :
    ∃ n' l' k', mi_run (mX6_orderOf_b23 N (nI d) (nI P) (nI A) f u) N (nI n, nI l) = some (nI n', nI l') ∧ n' = o * k' ∧ k' ∣ l' ∧ l' ∣ n' ∧ 0 < k' ∧ 0 < l' ∧ n' ≤ n ∧ l' ≤ l ∧ ∀ e, 2 ≤ e → e < d + 1 → ¬ e ∣ l' := by
  have ab := gO_ab hc
  obtain ⟨r, hr, n', l', k', er, q⟩ := mi_run_ok (mX6_orderOf_b23 N (nI d) (nI P) (nI A) f u) (fun s => ∃ n1 l1 k1 : Nat, s = (nI n1, nI l1) ∧ n1 = o * k1 ∧ k1 ∣ l1 ∧ l1 ∣ n1 ∧ 0 < k1 ∧ 0 < l1 ∧ n1 ≤ n ∧ l1 ≤ l ∧ ∀ e, 2 ≤ e → e < d → ¬ e ∣ l1) (fun s => ∃ n1 l1 k1 : Nat, s = (nI n1, nI l1) ∧ n1 = o * k1 ∧ k1 ∣ l1 ∧ l1 ∣ n1 ∧ 0 < k1 ∧ 0 < l1 ∧ n1 ≤ n ∧ l1 ≤ l ∧ ∀ e, 2 ≤ e → e < d + 1 → ¬ e ∣ l1) (fun s => s.2.toNatClampNeg) (by
    rintro s ⟨n1, l1, k1, rfl, j1, j2, j3, j4, j5, j6, j7, j8⟩
    have n10 : 0 < n1 := by rw [j1]; exact Nat.mul_pos ho.1 j4
    have ln := Nat.le_of_dvd n10 j3
    have hdz : ¬ nI d = 0 := nI_ne0 (by omega) (by omega)
    dsimp only [mX6_orderOf_b23, mi_let]
    rw [if_neg hdz, rem_nI (by omega) (by omega) (by omega)]
    by_cases c : l1 % d = 0
    · left
      have dl := Nat.dvd_of_mod_eq_zero c
      have pd := prm_least hd2 dl j8
      rw [if_pos (by rw [c]; rfl), if_neg hdz, if_neg hdz, n32_div (by omega) (by omega) (by omega), n32_div (by omega) (by omega) (by omega)]
      obtain ⟨l2, el⟩ := dl
      have l20 : 0 < l2 := Nat.pos_of_ne_zero (fun z => by rw [z, Nat.mul_zero] at el; omega)
      have ld : l1 / d = l2 := by rw [el]; exact Nat.mul_div_cancel_left l2 (by omega)
      have l2l : l2 < l1 := by rw [el]; have := Nat.mul_le_mul_right l2 hd2; omega
      have ndl : n1 / d ≤ n1 := Nat.div_le_self n1 d
      obtain ⟨w, ew, pw⟩ := multR hc hN hf hu (nI (n1 / d)).toInt64
      rw [nIl_toInt (by omega), gz_nat] at pw
      rw [ew]; simp only [Option.bind_some]
      obtain ⟨s1, s2⟩ := ord_step ab ho hd2 pd.2 j1 (by rw [← el]; exact j2) j4
      have hmu : (nI l2).toNatClampNeg < (nI l1).toNatClampNeg := by rw [nI_clamp (by omega), nI_clamp (by omega)]; exact l2l
      have no2 : ∀ e, 2 ≤ e → e < d → ¬ e ∣ l2 := fun e h2 h3 h4 => j8 e h2 h3 (by rw [el]; exact Nat.dvd_trans h4 ⟨d, Nat.mul_comm d l2⟩)
      rw [ld]
      by_cases z : w = -1
      · rw [if_pos z, if_neg hdz]
        have g0 : gm (gO hc) ez (n1 / d) U = ez := Subtype.ext ((pe_none hc.2.2.2.1 pw).mp z)
        obtain ⟨k', h1, h2, h3⟩ := s1 g0 (Nat.dvd_trans ⟨l2, el⟩ j3)
        refine ⟨_, rfl, ⟨n1 / d, l2, k', rfl, h1, h2, ?_, h3, l20, by omega, by omega, no2⟩, hmu⟩
        obtain ⟨m, em⟩ := j3
        exact ⟨m, by rw [em, el, Nat.mul_assoc, Nat.mul_div_cancel_left _ (by omega)]⟩
      · rw [if_neg z]
        have g0 : ¬ gm (gO hc) ez (n1 / d) U = ez := fun y => z ((pe_none hc.2.2.2.1 pw).mpr (congrArg Subtype.val y))
        exact ⟨_, rfl, ⟨n1, l2, k1, rfl, j1, s2 (fun y => g0 y.1), Nat.dvd_trans ⟨d, by rw [el, Nat.mul_comm]⟩ j3, j4, l20, j6, by omega, no2⟩, hmu⟩
    · right
      have hr := Nat.mod_lt l1 (show 0 < d by omega)
      rw [if_neg (nI_ne0 (by omega) (by omega))]
      refine ⟨_, rfl, n1, l1, k1, rfl, j1, j2, j3, j4, j5, j6, j7, fun e h2 h3 h4 => ?_⟩
      by_cases ed : e = d
      · rw [ed] at h4; exact c (Nat.mod_eq_zero_of_dvd h4)
      · exact j8 e h2 (by omega) h4) N (nI n, nI l) ⟨n, l, k, rfl, e0, hk, hln, k0, l0, Nat.le_refl n, Nat.le_refl l, no⟩ (by
    have n0 : 0 < n := by rw [e0]; exact Nat.mul_pos ho.1 k0
    have := Nat.le_of_dvd n0 hln
    show (nI l).toNatClampNeg < N; rw [nI_clamp (by omega)]; omega)
  exact ⟨n', l', k', by rw [hr, er], q⟩
theorem ordR17 {F : Type} [mFld F] {P A B : Nat} {φ : Int → F} (hc : CX F P A B φ) {N : Nat} (hN : 2 ^ 64 ≤ N) {f : Nat → Int32} (hf : invOK P f) {u : Int32} {U : EP (φ A) (φ B)} (hu : pe P φ u U.1) {o : Nat} (ho : isOrd (gO hc) ez o U) {M : Nat} (M0 : 0 < M) (hM : M ≤ 10300) (dM : o ∣ M) :
    ∃ l d, mi_run (mX6_orderOf_b17 N (nI P) (nI A) f u) N (nI M, nI M, 2) = some (nI o, l, d) := by
  obtain ⟨r, hr, q⟩ := mi_run_ok (mX6_orderOf_b17 N (nI P) (nI A) f u) (fun s => ∃ n1 l1 d1 k1 : Nat, s = (nI n1, nI l1, nI d1) ∧ n1 = o * k1 ∧ k1 ∣ l1 ∧ l1 ∣ n1 ∧ 0 < k1 ∧ 0 < l1 ∧ n1 ≤ M ∧ l1 ≤ M ∧ 2 ≤ d1 ∧ d1 ≤ 10301 ∧ ∀ e, 2 ≤ e → e < d1 → ¬ e ∣ l1) (fun s => s.1 = nI o) (fun s => 10302 - s.2.2.toNatClampNeg) (by
    rintro s ⟨n1, l1, d1, k1, rfl, j1, j2, j3, j4, j5, j6, j7, j8, j9, j10⟩
    dsimp only [mX6_orderOf_b17, mi_let]
    by_cases c : l1 < d1
    · right
      rw [if_pos (nI_lt c (by omega))]
      refine ⟨_, rfl, ?_⟩
      have l1e : l1 = 1 := Classical.byContradiction (fun w => j10 l1 (by omega) c (Nat.dvd_refl l1))
      have : k1 = 1 := by rw [l1e] at j2; exact Nat.dvd_one.mp j2
      show nI n1 = nI o
      rw [j1, this, Nat.mul_one]
    · left
      rw [if_neg (nI_nlt (by omega) (by omega))]
      obtain ⟨n', l', k', e, i1, i2, i3, i4, i5, i6, i7, i8⟩ := ordR23 hc hN hf hu ho j8 j9 (by omega) j1 j2 j3 j4 j5 j10
      rw [e]; simp only [Option.bind_some]
      refine ⟨_, rfl, ⟨n', l', d1 + 1, k', by rw [nI_1], i1, i2, i3, i4, i5, by omega, by omega, by omega, by omega, i8⟩, ?_⟩
      show 10302 - (nI d1 + 1).toNatClampNeg < 10302 - (nI d1).toNatClampNeg
      rw [nI_1, nI_clamp (by omega), nI_clamp (by omega)]; omega) N (nI M, nI M, 2) ⟨M, M, 2, M / o, rfl, (Nat.mul_div_cancel' dM).symm, Nat.div_dvd_of_dvd dM, Nat.dvd_refl M, Nat.div_pos (Nat.le_of_dvd M0 dM) ho.1, M0, Nat.le_refl M, Nat.le_refl M, by omega, by omega, fun e h1 h2 => by omega⟩ (by
    show 10302 - (2 : Int32).toNatClampNeg < N
    omega)
  obtain ⟨r1, r2, r3⟩ := r
  exact ⟨r2, r3, by rw [hr, show r1 = nI o from q]⟩
theorem CU.inv {P A B : Nat} {p a b rt pm : Int32} {f g pts ah : Nat → Int32} (h : CU P A B p a b rt pm f g pts ah) : invOK P f := invOK_of h.2.2.2.2.1 h.2.2.2.2.2.1 h.2.2.2.2.2.2.2.2.2.1
theorem orderR {F : Type} [mFld F] {P A B : Nat} {φ : Int → F} (hc : CX F P A B φ) {N : Nat} (hN : 2 ^ 64 ≤ N) {rt pm : Int32} {f g pts ah : Nat → Int32} (h : CU P A B (nI P) (nI A) (nI B) rt pm f g pts ah) {u : Int32} {U : EP (φ A) (φ B)} (hu : pe P φ u U.1) {o : Nat} (ho : isOrd (gO hc) ez o U) :
    ∃ pts' ah', mX6_orderOf N (nI P) (nI A) (nI B) pm f g pts ah u = some (nI o, nI (cnt P A B P), pts', ah') ∧ CU P A B (nI P) (nI A) (nI B) rt (nI (cnt P A B P)) f g pts' ah' ∧ LK P A B P pts' ah' := by
  obtain ⟨pts', ah', e, hC, hL⟩ := listE N (by omega) h
  have hcn := cnt_b h
  have d : o ∣ cnt P A B P := (ord_dvd (gO_ab hc) ho _).mp (cx_lagr hc U)
  obtain ⟨l, d, e2⟩ := ordR17 hc hN h.inv hu ho hcn.1 (by omega) d
  refine ⟨pts', ah', ?_, hC, hL⟩
  unfold mX6_orderOf
  rw [e]; simp only [Option.bind_some]
  rw [e2]; rfl
