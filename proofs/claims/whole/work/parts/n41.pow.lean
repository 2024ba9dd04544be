theorem CU.roots {P A B : Nat} {p a b rt pm : Int32} {f g pts ah : Nat → Int32} (h : CU P A B p a b rt pm f g pts ah) : rootTab P g := h.2.2.2.2.2.2.2.2.2.2.1
theorem CU.invs {P A B : Nat} {p a b rt pm : Int32} {f g pts ah : Nat → Int32} (h : CU P A B p a b rt pm f g pts ah) : invOK P f := invOK_of h.2.2.2.2.1 h.2.2.2.2.2.1 h.2.2.2.2.2.2.2.2.2.1
/-! powers -/
theorem pw_even (P x y n : Nat) (h : n % 2 = 0) : x * (y * y % P) ^ (n / 2) % P = x * y ^ n % P := by
  rw [Nat.mul_mod, ← Nat.pow_mod, ← Nat.mul_mod, ← Nat.pow_two, ← Nat.pow_mul]
  congr 3; omega
theorem pw_odd (P x y n : Nat) (h : n % 2 = 1) : (x * y % P) * (y * y % P) ^ (n / 2) % P = x * y ^ n % P := by
  rw [Nat.mul_mod, ← Nat.pow_mod, Nat.mod_mod, ← Nat.mul_mod, ← Nat.pow_two, ← Nat.pow_mul, Nat.mul_assoc]
  congr 2
  rw [Nat.mul_comm, ← Nat.pow_succ]
  congr 1; omega
theorem raisedC {N : Nat} (hN : 2 ^ 64 ≤ N) {P v : Nat} (h1 : 2 ≤ P) (hP : P ≤ 20000) (hv : v < P) (e : Int64) : mX4_raised N (nI v) e (nI P) = some (nI (v ^ uN e % P)) := by
  have big : ∀ x y, x < P → y < P → x * y < 2 ^ 31 := fun x y hx hy => by
    have : x * y ≤ 20000 * 20000 := Nat.mul_le_mul (by omega) (by omega)
    omega
  obtain ⟨V, hV⟩ : ∃ V, v ^ uN e % P = V := ⟨_, rfl⟩
  rw [hV]
  obtain ⟨o, ho, q⟩ := mi_run_ok (mX4_raised_b12 N (nI P)) (fun s => ∃ x y t : Nat, s.1 = nI x ∧ s.2.1 = nI y ∧ x < P ∧ y < P ∧ x * y ^ uN s.2.2.1 % P = V ∧ s.2.2.2 = nI t ∧ t ≤ 64 ∧ uN s.2.2.1 < 2 ^ (64 - t)) (fun o => o.1 = nI (V)) (fun s => 64 - s.2.2.2.toNatClampNeg) (by
    rintro ⟨x1, x2, x3, x4⟩ ⟨x, y, t, e1, e2, hx, hy, h3, h4, h5, h6⟩
    have e1' : x1 = nI x := e1
    have e2' : x2 = nI y := e2
    have h4' : x4 = nI t := h4
    have h3' : x * y ^ uN x3 % P = V := h3
    have h6' : uN x3 < 2 ^ (64 - t) := h6
    subst e1' e2' h4'
    dsimp only [mX4_raised_b12, mi_let]
    have zero : uN x3 = 0 → nI x = nI (V) := fun z => by
      rw [← h3', z, Nat.pow_zero, Nat.mul_one, Nat.mod_eq_of_lt hx]
    by_cases c0 : (64 : Int32) ≤ nI t
    · right
      rw [if_pos c0]
      have : 64 ≤ t := (nI_leI (a := 64) (by omega) (by omega)).mp c0
      refine ⟨_, rfl, zero ?_⟩
      rw [show 64 - t = 0 by omega] at h6'
      omega
    · rw [if_neg c0]
      have tl : t < 64 := Nat.lt_of_not_le (fun z => c0 (nI_le (a := 64) z (by omega)))
      by_cases c : lg_cmp x3 0 = 0
      · right
        rw [if_pos c]
        exact ⟨_, rfl, zero (uN_0.mp c)⟩
      · left
        have hp0 : ¬ nI P = 0 := nI_ne0 (by omega) (by omega)
        rw [if_neg c, if_neg hp0, if_neg hp0, if_neg hp0, pk_mul, pk_mul, rem_nI (big _ _ hx hy) (by omega) (by omega), rem_nI (big _ _ hy hy) (by omega) (by omega)]
        have hb := uN_half x3
        generalize hz : (x3.toUInt64 >>> ((1 : Int32).toInt64.toUInt64 &&& Int64.toUInt64 63)).toInt64 = z at *
        have hz2 : uN z < 2 ^ (64 - (t + 1)) := by
          rw [hb]
          have : 2 ^ (64 - t) = 2 ^ (64 - (t + 1)) * 2 := by rw [← Nat.pow_succ]; congr 1; omega
          omega
        have meas : 64 - (nI t + 1).toNatClampNeg < 64 - (nI t).toNatClampNeg := by rw [nI_1, nI_clamp (by omega), nI_clamp (by omega)]; omega
        by_cases d : lg_cmp (x3 &&& 1) 1 = 0
        · rw [if_pos d]
          refine ⟨_, rfl, ⟨x * y % P, y * y % P, t + 1, rfl, rfl, Nat.mod_lt _ (by omega), Nat.mod_lt _ (by omega), ?_, nI_1 t, by omega, hz2⟩, meas⟩
          show (x * y % P) * (y * y % P) ^ uN z % P = _
          rw [hb, pw_odd P x y _ ((uN_odd x3).mp d), h3']
        · have o1 : uN x3 % 2 = 0 := by
            have : ¬ uN x3 % 2 = 1 := fun z => d ((uN_odd x3).mpr z)
            omega
          rw [if_neg d]
          refine ⟨_, rfl, ⟨x, y * y % P, t + 1, rfl, rfl, hx, Nat.mod_lt _ (by omega), ?_, nI_1 t, by omega, hz2⟩, meas⟩
          show x * (y * y % P) ^ uN z % P = _
          rw [hb, pw_even P x y _ o1, h3']) N (1, nI v, e, 0) ⟨1, v, 0, rfl, rfl, by omega, hv, by rw [Nat.one_mul]; exact hV, rfl, by omega, uN_lt e⟩ (by
    show 64 - (0 : Int32).toNatClampNeg < N
    omega)
  unfold mX4_raised
  rw [ho]
  obtain ⟨o1, o2, o3, o4⟩ := o
  exact congrArg some q
theorem powM {N : Nat} (hN : 2 ^ 64 ≤ N) {P v : Nat} (h1 : 2 ≤ P) (hP : P ≤ 10007) (hv : v < P) {e : Int64} (e0 : 0 ≤ e.toInt) : mX6_powered N (nI P) (nI v) e = some (nI (v ^ e.toInt.toNat % P)) := by
  obtain ⟨V, hV⟩ : ∃ V, v ^ e.toInt.toNat % P = V := ⟨_, rfl⟩
  rw [hV]
  obtain ⟨o, ho, q⟩ := mi_run_ok (mX6_powered_b9 N (nI P)) (fun s => ∃ x y : Nat, s.1 = nI x ∧ s.2.1 = nI y ∧ x < P ∧ y < P ∧ 0 ≤ s.2.2.toInt ∧ x * y ^ s.2.2.toInt.toNat % P = V) (fun o => o.1 = nI (V)) (fun s => s.2.2.toInt.toNat) (by
    rintro ⟨x1, x2, x3⟩ ⟨x, y, e1, e2, hx, hy, h0, h3⟩
    have e1' : x1 = nI x := e1
    have e2' : x2 = nI y := e2
    have h3' : x * y ^ x3.toInt.toNat % P = V := h3
    have h0' : 0 ≤ x3.toInt := h0
    subst e1' e2'
    dsimp only [mX6_powered_b9, mi_let]
    by_cases c : lg_cmp x3 0 ≤ 0
    · right; rw [if_pos c]
      refine ⟨_, rfl, ?_⟩
      have := Int64.le_iff_toInt_le.mp ((lg_cmp_le x3 0).mp c)
      rw [l0_toInt] at this
      have z : x3.toInt.toNat = 0 := by omega
      show nI x = _
      rw [← h3', z, Nat.pow_zero, Nat.mul_one, Nat.mod_eq_of_lt hx]
    · left
      rw [if_neg c]
      have c' : 0 < x3.toInt := by
        refine Int.not_le.mp fun h => c ((lg_cmp_le x3 0).mpr (Int64.le_iff_toInt_le.mpr (by rw [l0_toInt]; exact h)))
      have hs := shr1_toInt x3
      have od := uN_odd x3
      rw [uN_pos h0'] at od
      have m1 := mul_lt hx hy hP
      have m2 := mul_lt hy hy hP
      rw [mulM N P x y (by omega) hP (by omega) (by omega) (by omega), mulM N P y y (by omega) hP (by omega) (by omega) (by omega)]
      simp only [Option.bind_some]
      generalize hz : x3 >>> ((1 : Int32).toInt64 &&& 63) = z at *
      have zz : z.toInt.toNat = x3.toInt.toNat / 2 := by omega
      by_cases d : lg_cmp (x3 &&& 1) 1 = 0
      · rw [if_pos d]
        refine ⟨_, rfl, ⟨x * y % P, y * y % P, rfl, rfl, Nat.mod_lt _ (by omega), Nat.mod_lt _ (by omega), by show 0 ≤ z.toInt; omega, ?_⟩, by show z.toInt.toNat < x3.toInt.toNat; omega⟩
        show (x * y % P) * (y * y % P) ^ z.toInt.toNat % P = _
        rw [zz, pw_odd P x y _ (od.mp d), h3']
      · have o1 : x3.toInt.toNat % 2 = 0 := by
          have : ¬ x3.toInt.toNat % 2 = 1 := fun z => d (od.mpr z)
          omega
        rw [if_neg d]
        refine ⟨_, rfl, ⟨x, y * y % P, rfl, rfl, hx, Nat.mod_lt _ (by omega), by show 0 ≤ z.toInt; omega, ?_⟩, by show z.toInt.toNat < x3.toInt.toNat; omega⟩
        show x * (y * y % P) ^ z.toInt.toNat % P = _
        rw [zz, pw_even P x y _ o1, h3']) N (1, nI v, e) ⟨1, v, rfl, rfl, by omega, hv, e0, by rw [Nat.one_mul]; exact hV⟩ (by
    show e.toInt.toNat < N
    have := Int64.toInt_lt e; omega)
  unfold mX6_powered
  rw [ho]
  obtain ⟨o1, o2, o3⟩ := o
  exact congrArg some q
theorem inv_un {P j x r : Nat} (hx : x < P) (hr : r < P) (d1 : (P : Int) ∣ (j : Int) * x - 1) (d2 : (P : Int) ∣ (j : Int) * r - 1) : x = r := by
  obtain ⟨s, hs⟩ := d1
  obtain ⟨t, ht⟩ := d2
  have k : (P : Int) ∣ (x : Int) - r := ⟨x * t * (-1) + r * s, by grind⟩
  obtain ⟨w, hw⟩ := k
  have w0 : w = 0 := by
    refine Classical.byContradiction fun ne => ?_
    rcases Int.lt_or_gt_of_ne ne with z | z
    · have : (P : Int) * w ≤ P * (-1) := Int.mul_le_mul_of_nonneg_left (by omega) (by omega)
      omega
    · have : (P : Int) * 1 ≤ P * w := Int.mul_le_mul_of_nonneg_left (by omega) (by omega)
      omega
  rw [w0, Int.mul_zero] at hw
  omega
theorem cop_lt {P v : Nat} (hp : isp P) (h2 : 2 ≤ P) (v0 : 0 < v) (hv : v < P) : Nat.Coprime v P := (prm_cop (prm_isp hp h2) (fun d => by have := Nat.le_of_dvd v0 d; omega)).symm
/-- both find the same inverse -/
theorem inv_both {N : Nat} (hN : 20000 ≤ N) {P : Nat} (hp : isp P) (h5 : 5 ≤ P) (hP : P ≤ 10007) {f : Nat → Int32} (hf : invOK P f) {v : Nat} (v0 : 0 < v) (hv : v < P) : ∃ r, r < P ∧ f v = nI r ∧ mX4_inverted N (nI v) (nI P) = some (nI r) ∧ (P : Int) ∣ (v : Int) * r - 1 := by
  obtain ⟨r, hr, e, d⟩ := inv_spec N hN (n := P) (v := v) (by omega) v0 hv (cop_lt hp (by omega) v0 hv)
  obtain ⟨x, hx, e2, d2⟩ := hf v hv
  have := inv_un hx hr (d2 v0) d
  subst this
  exact ⟨x, hr, e2, e, d⟩
