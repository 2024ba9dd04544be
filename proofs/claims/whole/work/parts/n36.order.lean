/-! how many points: the table's count is the group's -/
theorem wt_npts {F : Type} [mFld F] {P : Nat} {φ : Int → F} (hF : isGF F P φ) (hp : isp P) (h5 : 5 ≤ P) {e : Nat} (he : P = 2 * e + 1) (A B x : Nat) : (wt P (cub P A B x) = 1 ∧ cb (φ A) (φ B) (φ x) = 0) ∨ (wt P (cub P A B x) = 2 ∧ cb (φ A) (φ B) (φ x) ≠ 0 ∧ cb (φ A) (φ B) (φ x) ^ e = 1) ∨ (wt P (cub P A B x) = 0 ∧ cb (φ A) (φ B) (φ x) ≠ 0 ∧ cb (φ A) (φ B) (φ x) ^ e ≠ 1) := by
  have k := gf_fp hF hp (by omega)
  have vl := cub_lt P A B x (by omega)
  rw [← gf_cub hF]
  generalize cub P A B x = v at *
  have h2 : (2 : F) ≠ 0 := (gf_ch hF).1 2 (by omega) (by omega)
  unfold wt
  by_cases v0 : v = 0
  · left; rw [if_pos v0, v0]; exact ⟨rfl, hm_zero hF.1⟩
  · have n0 : φ (v : Int) ≠ 0 := fun z => v0 (gf_nat hF vl (by omega) (z.trans (hm_zero hF.1).symm))
    rw [if_neg v0]
    by_cases s : sqb P v = true
    · right; left
      rw [if_pos s]
      refine ⟨rfl, n0, ?_⟩
      obtain ⟨r, hr, e1⟩ := sqb_iff.mp s
      have e2 : φ (v : Int) = φ (r : Int) * φ (r : Int) := by rw [← e1, gf_modN hF, Int.natCast_mul, hm_mul hF.1]
      have r0 : φ (r : Int) ≠ 0 := fun z => n0 (by rw [e2, z]; grind)
      rw [e2, rp_mul, ← rp_add]
      have := k.2.2.2 (φ (r : Int))
      rw [he, show 2 * e + 1 = e + e + 1 by omega, Lean.Grind.Semiring.pow_succ] at this
      have i := Lean.Grind.Field.mul_inv_cancel r0
      grind
    · right; right
      rw [if_neg s]
      refine ⟨rfl, n0, fun z => s (sqb_iff.mpr ?_)⟩
      obtain ⟨r, hr⟩ := sqrt_ex k he h2 n0 z
      obtain ⟨n, hn, rfl⟩ := hF.2.2 r
      refine ⟨n, hn, gf_nat hF (Nat.mod_lt _ (by omega)) vl ?_⟩
      rw [gf_modN hF, Int.natCast_mul, hm_mul hF.1, hr]
theorem fl_app {α : Type} (q : α → Prop) (l m : List α) : fl q (l ++ m) = fl q l ++ fl q m := by unfold fl; rw [List.filter_append]
theorem fl_one {α : Type} (q : α → Prop) (c : α) : (fl q [c]).length = @ite Nat (q c) (Classical.propDecidable _) 1 0 := by
  unfold fl
  by_cases k : q c
  · rw [List.filter_cons_of_pos (by simp [k]), if_pos k]; rfl
  · rw [List.filter_cons_of_neg (by simp [k]), if_neg k]; rfl
theorem npts_cnt {F : Type} [mFld F] {P : Nat} {φ : Int → F} (hF : isGF F P φ) (hp : isp P) (h5 : 5 ≤ P) {e : Nat} (he : P = 2 * e + 1) (A B : Nat) : npts (φ A) (φ B) e ((List.range P).map (fun n : Nat => φ n)) = cnt P A B P := by
  have key : ∀ k, npts (φ A) (φ B) e ((List.range k).map (fun n : Nat => φ n)) = cnt P A B k := by
    intro k
    induction k with
    | zero => rfl
    | succ k ih =>
      show _ = cnt P A B k + wt P (cub P A B k)
      rw [← ih, List.range_succ, List.map_append]
      unfold npts zsl ssl
      rw [fl_app, fl_app, List.length_append, List.length_append]
      show 1 + (_ + (fl _ [φ (k : Int)]).length) + 2 * (_ + (fl _ [φ (k : Int)]).length) = _
      rw [fl_one, fl_one]
      rcases wt_npts hF hp h5 he A B k with ⟨w, z⟩ | ⟨w, z, y⟩ | ⟨w, z, y⟩
      · rw [w, if_pos z, if_neg (fun q => q.1 z)]; omega
      · rw [w, if_neg z, if_pos ⟨z, y⟩]; omega
      · rw [w, if_neg z, if_neg (fun q => y q.2)]; omega
  exact key P
/-- what is known of the group -/
theorem ga_ex {F : Type} [mFld F] {P A B : Nat} {φ : Int → F} (hc : CX F P A B φ) : ∃ all : List (EP (φ A) (φ B)), isAll all ∧ all.length = cnt P A B P ∧ ∀ q, prm q → kap (gO hc) ez all q < q * q * q := by
  have he := pr_odd hc.2.1 hc.2.2.1
  have k := gf_fp hc.1 hc.2.1 (by have := hc.2.2.1; omega)
  have h5 := hc.2.2.1
  obtain ⟨all, al, len⟩ := all_ex k he (by omega) (cx2 hc) (φ A) (φ B)
  exact ⟨all, al, by rw [len, npts_cnt hc.1 hc.2.1 h5 he], fun q hq => few_ex (cx2 hc) (cxn hc) k.1 k.2.1 al hq.1⟩
theorem cx_hasse {F : Type} [mFld F] {P A B : Nat} {φ : Int → F} (hc : CX F P A B φ) : ((P : Int) + 1 - cnt P A B P) * ((P : Int) + 1 - cnt P A B P) ≤ 4 * P := by
  have he := pr_odd hc.2.1 hc.2.2.1
  have k := gf_fp hc.1 hc.2.1 (by have := hc.2.2.1; omega)
  have h5 := hc.2.2.1
  have := hasse k he (by omega) (cx2 hc) (cxn hc)
  rwa [npts_cnt hc.1 hc.2.1 h5 he] at this
theorem cx_lagr {F : Type} [mFld F] {P A B : Nat} {φ : Int → F} (hc : CX F P A B φ) (U : EP (φ A) (φ B)) : gm (gO hc) ez (cnt P A B P) U = ez := by
  obtain ⟨all, al, len, -⟩ := ga_ex hc
  rw [← len]; exact lagrange (gO_ab hc) al U
theorem cx_ord {F : Type} [mFld F] {P A B : Nat} {φ : Int → F} (hc : CX F P A B φ) (U : EP (φ A) (φ B)) : ∃ o, isOrd (gO hc) ez o U := by
  obtain ⟨all, al, -, -⟩ := ga_ex hc
  exact ord_ex (gO_ab hc) al U
/-! the least factor -/
theorem lf2 (N : Nat) (hN : 2 ^ 64 ≤ N) (n : Nat) (h2 : 2 ≤ n) (hn : n < 2 ^ 31) : ∃ q, mX4_leastFactor N (nI n) = some (nI q) ∧ prm q ∧ q ∣ n ∧ ∀ d, 2 ≤ d → d < q → ¬ d ∣ n := by
  obtain ⟨o, ho, hQ⟩ := mi_run_ok (mX4_leastFactor_b2 N (nI n)) (fun s => ∃ q, s = nI q ∧ 2 ≤ q ∧ q ≤ 65536 ∧ ∀ d, 2 ≤ d → d < q → ¬ n % d = 0) (fun o => match o with | .inl _ => ∀ d, 2 ≤ d → d < n → ¬ n % d = 0 | .inr y => ∃ q, 2 ≤ q ∧ n % q = 0 ∧ y = nI q ∧ q < 2 ^ 31 ∧ ∀ d, 2 ≤ d → d < q → ¬ n % d = 0) (fun s => 70000 - s.toNatClampNeg) (by
    intro s ⟨q, es, hq2, hqm, hd⟩
    subst es
    have hne : ¬ nI q = 0 := nI_ne0 (by omega) (by omega)
    dsimp only [mX4_leastFactor_b2, mi_let]
    rw [if_neg hne, pk_div hn (by omega) (by omega)]
    have hdq : n / q < 2 ^ 31 := Nat.lt_of_le_of_lt (Nat.div_le_self n q) hn
    by_cases hlt : n / q < q
    · right
      refine ⟨.inl (nI q), by rw [if_pos (nI_lt hlt (by omega))], ?_⟩
      intro d hd2 hdn hm
      rcases Nat.lt_or_ge d q with k | k
      · exact hd d hd2 k hm
      · obtain ⟨e, he⟩ := Nat.dvd_of_mod_eq_zero hm
        have e2 : 2 ≤ e := Classical.byContradiction (fun w => by
          have : e = 0 ∨ e = 1 := by omega
          rcases this with z | z
          · rw [z, Nat.mul_zero] at he; omega
          · rw [z, Nat.mul_one] at he; omega)
        have eq : e < q := by
          have : n < q * q := (Nat.div_lt_iff_lt_mul (by omega)).mp hlt
          have k2 : q * e ≤ d * e := Nat.mul_le_mul_right e k
          refine Nat.lt_of_not_le (fun w => ?_)
          have := Nat.mul_le_mul_left q w
          omega
        exact hd e e2 eq (Nat.mod_eq_zero_of_dvd ⟨d, by rw [he, Nat.mul_comm]⟩)
    · have hge : q ≤ n / q := Nat.not_lt.mp hlt
      have hqq : q * q ≤ n := (Nat.le_div_iff_mul_le (by omega)).mp hge
      rw [if_neg (nI_nlt hge hdq), if_neg hne, rem_nI hn (by omega) (by omega)]
      by_cases hr : n % q = 0
      · right
        refine ⟨.inr (nI q), ?_, q, hq2, hr, rfl, by omega, hd⟩
        rw [hr, if_pos nI_0]
      · left
        have q46 : q ≤ 46341 := Nat.le_of_not_lt (fun w => by
          have : 46342 * 46342 ≤ q * q := Nat.mul_le_mul (by omega) (by omega)
          omega)
        refine ⟨nI (q + 1), ?_, ⟨q + 1, rfl, by omega, by omega, ?_⟩, ?_⟩
        · rw [if_neg (nI_ne0 (Nat.pos_of_ne_zero hr) (Nat.lt_of_le_of_lt (Nat.mod_le n q) hn)), nI_1]
        · intro d hd2 hdq2
          rcases Nat.lt_or_ge d q with k | k
          · exact hd d hd2 k
          · have h6 : d = q := by omega
            rw [h6]; exact hr
        · show 70000 - (nI (q + 1)).toNatClampNeg < 70000 - (nI q).toNatClampNeg
          rw [nI_clamp (by omega), nI_clamp (by omega)]
          omega) N 2 ⟨2, rfl, by omega, by omega, fun d h1 h3 => by omega⟩ (by
    show 70000 - (nI 2).toNatClampNeg < N
    omega)
  have pm : ∀ q, 2 ≤ q → q ∣ n → (∀ d, 2 ≤ d → d < q → ¬ n % d = 0) → prm q := fun q q2 qn hd => by
    refine ⟨q2, fun d dq => ?_⟩
    have d0 : 0 < d := Nat.pos_of_dvd_of_pos dq (by omega)
    have dl := Nat.le_of_dvd (by omega) dq
    by_cases c1 : d = 1
    · exact Or.inl c1
    · by_cases c2 : d = q
      · exact Or.inr c2
      · exact absurd (Nat.mod_eq_zero_of_dvd (Nat.dvd_trans dq qn)) (hd d (by omega) (by omega))
  unfold mX4_leastFactor
  rw [ho]
  rcases o with y | y
  · have hQ' : ∀ d, 2 ≤ d → d < n → ¬ n % d = 0 := hQ
    exact ⟨n, rfl, pm n h2 (Nat.dvd_refl n) hQ', Nat.dvd_refl n, fun d d2 dn w => hQ' d d2 dn (Nat.mod_eq_zero_of_dvd w)⟩
  · obtain ⟨q, q2, qn, rfl, -, hd⟩ : ∃ q, 2 ≤ q ∧ n % q = 0 ∧ y = nI q ∧ q < 2 ^ 31 ∧ ∀ d, 2 ≤ d → d < q → ¬ n % d = 0 := hQ
    have dq := Nat.dvd_of_mod_eq_zero qn
    exact ⟨q, rfl, pm q q2 dq hd, dq, fun d d2 dq w => hd d d2 dq (Nat.mod_eq_zero_of_dvd w)⟩
/-! orders -/
theorem nI_l_toInt {n : Nat} (h : n < 2 ^ 31) : (nI n).toInt64.toInt = (n : Int) := nIl_toInt h
theorem owC {F : Type} [mFld F] {P A B : Nat} {φ : Int → F} (hc : CX F P A B φ) {N : Nat} (hN : 2 ^ 64 ≤ N) {u : Int32} {U : EP (φ A) (φ B)} (hu : pe P φ u U.1) {n : Nat} (n0 : 0 < n) (hn : n < 2 ^ 31) (kn : gm (gO hc) ez n U = ez) : ∃ o, isOrd (gO hc) ez o U ∧ o ∣ n ∧ mX0_orderWithin N (nI P) (nI A) u (nI n) = some (nI o) := by
  have ab := gO_ab hc
  obtain ⟨o, ho⟩ := cx_ord hc U
  have don := (ord_dvd ab ho n).mp kn
  refine ⟨o, ho, don, ?_⟩
  obtain ⟨r, hr, q⟩ := mi_run_ok (mX0_orderWithin_b8 N (nI P) (nI A) u) (fun s => ∃ l r t k : Nat, s = (nI l, nI r, nI t) ∧ l = o * k ∧ k ∣ r ∧ r ∣ l ∧ 0 < k ∧ 0 < r ∧ l ≤ n ∧ r * 2 ^ t ≤ n) (fun s => s.1 = nI o) (fun s => 32 - s.2.2.toNatClampNeg) (by
    rintro s ⟨l, r, t, k, rfl, hl, hk, hrl, k0, r0, ln, hp⟩
    have l0 : 0 < l := by rw [hl]; exact Nat.mul_pos ho.1 k0
    have rl := Nat.le_of_dvd l0 hrl
    have t31 : t ≤ 30 := Nat.le_of_not_lt (fun w => by
      have p1 : 2 ^ 31 ≤ 2 ^ t := Nat.pow_le_pow_right (by omega) (by omega)
      have := Nat.mul_le_mul r0 p1
      omega)
    dsimp only [mX0_orderWithin_b8, mi_let]
    rw [if_neg (show ¬ (32 : Int32) ≤ nI t from fun z => by have := (nI_leI (a := 32) (b := t) (by omega) (by omega)).mp z; omega)]
    by_cases r1 : r ≤ 1
    · right
      rw [if_pos (show nI r ≤ 1 from nI_le (a := r) (b := 1) r1 (by omega))]
      refine ⟨_, rfl, ?_⟩
      show nI l = nI o
      have : k = 1 := by
        have := Nat.le_of_dvd r0 hk
        omega
      rw [hl, this, Nat.mul_one]
    · left
      rw [if_neg (show ¬ nI r ≤ 1 from fun z => by have := (nI_leI (a := r) (b := 1) (by omega) (by omega)).mp z; omega)]
      obtain ⟨q, e1, hq, dq, -⟩ := lf2 N hN r (by omega) (by omega)
      rw [e1]; simp only [Option.bind_some]
      have q2 := hq.1
      have qr := Nat.le_of_dvd r0 dq
      have qz : ¬ nI q = 0 := nI_ne0 (by omega) (by omega)
      rw [if_neg qz, if_neg qz, n32_div (by omega) (by omega) (by omega), n32_div (by omega) (by omega) (by omega)]
      obtain ⟨r', er⟩ := dq
      have r'0 : 0 < r' := Nat.pos_of_ne_zero (fun z => by rw [z, Nat.mul_zero] at er; omega)
      have rd : r / q = r' := by rw [er]; exact Nat.mul_div_cancel_left r' (by omega)
      have ql : q ∣ l := Nat.dvd_trans ⟨r', er⟩ hrl
      have ldl : l / q ≤ l := Nat.div_le_self l q
      obtain ⟨w, ew, pw⟩ := multC hc hN hu (nI (l / q)).toInt64
      rw [nIl_toInt (by omega), gz_nat] at pw
      rw [ew]; simp only [Option.bind_some]
      obtain ⟨s1, s2⟩ := ord_step ab ho q2 hq.2 hl (by rw [← er]; exact hk) k0
      have meas : 32 - (nI t + 1).toNatClampNeg < 32 - (nI t).toNatClampNeg := by rw [nI_1, nI_clamp (by omega), nI_clamp (by omega)]; omega
      have hp' : r' * 2 ^ (t + 1) ≤ n := by
        have : r' * 2 ^ (t + 1) = 2 * r' * 2 ^ t := by rw [Nat.pow_succ]; grind
        rw [this]
        have h2 : 2 * r' ≤ r := by rw [er]; exact Nat.mul_le_mul_right r' q2
        exact Nat.le_trans (Nat.mul_le_mul_right _ h2) hp
      by_cases z : w = -1
      · rw [if_pos z, if_neg qz]
        have gz0 : gm (gO hc) ez (l / q) U = ez := Subtype.ext ((pe_none hc.2.2.2.1 pw).mp z)
        obtain ⟨k', h1, h2, h3⟩ := s1 gz0 ql
        refine ⟨_, rfl, ⟨l / q, r', t + 1, k', by rw [rd, nI_1], h1, h2, ?_, h3, r'0, by omega, hp'⟩, meas⟩
        obtain ⟨m, em⟩ := hrl
        refine ⟨m, ?_⟩
        rw [em, er, Nat.mul_assoc, Nat.mul_div_cancel_left _ (by omega)]
      · rw [if_neg z]
        have gz0 : ¬ gm (gO hc) ez (l / q) U = ez := fun y => z ((pe_none hc.2.2.2.1 pw).mpr (congrArg Subtype.val y))
        refine ⟨_, rfl, ⟨l, r', t + 1, k, by rw [rd, nI_1], hl, s2 (fun y => gz0 y.1), Nat.dvd_trans ⟨q, by rw [er, Nat.mul_comm]⟩ hrl, k0, r'0, ln, hp'⟩, meas⟩) N (nI n, nI n, 0) ⟨n, n, 0, n / o, rfl, (Nat.mul_div_cancel' don).symm, Nat.div_dvd_of_dvd don, Nat.dvd_refl n, Nat.div_pos (Nat.le_of_dvd n0 don) ho.1, n0, Nat.le_refl n, by omega⟩ (by
    show 32 - (0 : Int32).toNatClampNeg < N
    omega)
  unfold mX0_orderWithin
  rw [hr]
  obtain ⟨r1, r2, r3⟩ := r
  exact congrArg some q
