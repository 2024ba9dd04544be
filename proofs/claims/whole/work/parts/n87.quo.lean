theorem q_r1 {s T x A P : Nat} (h : s % P = T % P) : (s + (3 * (x * x % P) + A) % P) % P = (T + (3 * x * x + A)) % P := by
  rw [Nat.add_mod_mod, ← Nat.mod_add_mod, h, ← q_m1 T 0, Nat.add_assoc]
theorem q_r2 {w T x A B P : Nat} (h : w % P = T % P) : (w + (5 * (x * x % P * x % P) + 3 * (A * x % P) + 2 * B) % P) % P = (T + (5 * (x * x * x) + 3 * (A * x) + 2 * B)) % P := by
  rw [Nat.add_mod_mod, ← Nat.mod_add_mod, h]
  have h1 := Nat.mod_add_div T P
  have h2 : x * x * x = (x * x % P) * x + P * (x * x / P * x) := by
    conv => lhs; rw [← Nat.mod_add_div (x * x) P]
    rw [Nat.add_mul, Nat.mul_assoc]
  have h3 := Nat.mod_add_div (x * x % P * x) P
  have h4 := Nat.mod_add_div (A * x) P
  have m1 : P * (5 * (x * x / P * x)) = 5 * (P * (x * x / P * x)) := Nat.mul_left_comm _ _ _
  have m2 : P * (5 * (x * x % P * x / P)) = 5 * (P * (x * x % P * x / P)) := Nat.mul_left_comm _ _ _
  have m3 : P * (3 * (A * x / P)) = 3 * (P * (A * x / P)) := Nat.mul_left_comm _ _ _
  have e : T + (5 * (x * x * x) + 3 * (A * x) + 2 * B) = (T % P + (5 * (x * x % P * x % P) + 3 * (A * x % P) + 2 * B)) + P * (T / P + 5 * (x * x / P * x) + 5 * (x * x % P * x / P) + 3 * (A * x / P)) := by
    rw [Nat.mul_add, Nat.mul_add, Nat.mul_add]; omega
  rw [e, Nat.add_mul_mod_self_left]
theorem quoR {N : Nat} (hN : 2 ^ 64 ≤ N) {F : Type} [mFld F] {P A B : Nat} {φ : Int → F} (hc : CX F P A B φ) {f : Nat → Int32} (hf : invOK P f) {u : Int32} {U : EP (φ A) (φ B)} (hu : pe P φ u U.1) {o : Nat} (oU : isOrd (gO hc) ez o U) (o4 : o ≤ 400) {X Y : Nat → Nat} (hX : ∀ k, 0 < k → k < o → X k < P ∧ Y k < P ∧ (gm (gO hc) ez k U).1 = some (φ (X k : Nat), φ (Y k : Nat))) : ∃ o', mi_run (mX6_quotient_b59 N (nI o) (nI P) (nI A) (nI B) f u) N (0, 0, u, 1) = some o' ∧ ∃ s w : Nat, o'.1 = lN s ∧ o'.2.1 = lN w ∧ s < 2 ^ 31 ∧ w < 2 ^ 31 ∧ s % P = qT X A (o - 1) % P ∧ w % P = qW X A B (o - 1) % P := by
  have ab := gO_ab hc
  have hc0 := hc
  obtain ⟨hF, hp, h5, hP, hA, hB, -⟩ := hc0
  have h1 : 1 ≤ P := by omega
  have o0 := oU.1
  refine mi_run_ok (mX6_quotient_b59 N (nI o) (nI P) (nI A) (nI B) f u) (fun st => ∃ k s w : Nat, st.1 = lN s ∧ st.2.1 = lN w ∧ st.2.2.2 = nI k ∧ 0 < k ∧ k ≤ o ∧ pe P φ st.2.2.1 (gm (gO hc) ez k U).1 ∧ s ≤ 10007 * k ∧ w ≤ 10007 * k ∧ s % P = qT X A (k - 1) % P ∧ w % P = qW X A B (k - 1) % P) _ (fun st => 1000 - st.2.2.2.toNatClampNeg) ?_ N (0, 0, u, 1) ⟨1, 0, 0, rfl, rfl, rfl, by omega, by omega, by rw [gm_1 ab]; exact hu, by omega, by omega, rfl, rfl⟩ (by show 1000 - _ < N; omega)
  rintro ⟨x1, x2, x3, x4⟩ ⟨k, s, w, e1, e2, e4, k0, ko, p3, ls, lw, ms, mw⟩
  have e1 : x1 = lN s := e1
  have e2 : x2 = lN w := e2
  have e4 : x4 = nI k := e4
  have p3 : pe P φ x3 (gm (gO hc) ez k U).1 := p3
  subst e1 e2 e4
  dsimp only [mX6_quotient_b59, mi_let]
  by_cases c : o ≤ k
  · right
    rw [if_pos (nI_le c (by omega))]
    have : k = o := by omega
    subst this
    exact ⟨_, rfl, s, w, rfl, rfl, by omega, by omega, ms, mw⟩
  · left
    obtain ⟨hXk, hYk, ek⟩ := hX k k0 (by omega)
    have ex : x3 = nI (16384 * X k + Y k) := pe_xy hF hXk hYk p3 ek
    obtain ⟨v, ev, pv⟩ := sumRe hc N hf p3 hu
    have xx := mul_lt hXk hXk hP
    have ax := mul_lt hA hXk hP
    have l1 : X k * X k % P < P := Nat.mod_lt _ h1
    have xl := mul_lt l1 hXk hP
    have l2 : X k * X k % P * X k % P < P := Nat.mod_lt _ h1
    have l3 : A * X k % P < P := Nat.mod_lt _ h1
    have l4 : (3 * (X k * X k % P) + A) % P < P := Nat.mod_lt _ h1
    have l5 : (5 * (X k * X k % P * X k % P) + 3 * (A * X k % P) + 2 * B) % P < P := Nat.mod_lt _ h1
    rw [if_neg (nI_ge (by omega) (by omega)), ev, ex, (pt_split (x := X k) (y := Y k) (by omega) (by omega)).1, mulM N P _ _ h1 hP (by omega) (by omega) (by omega)]; simp only [Option.bind_some]
    rw [nI_l (n := X k * X k % P) (by omega), nI_l (n := A) (by omega), show (3 : Int64) = lN 3 from rfl, lN_mul, lN_add, modM N P _ h1 hP (by omega)]; simp only [Option.bind_some]
    rw [mulM N P _ _ h1 hP (by omega) (by omega) (by omega), mulM N P _ _ h1 hP (by omega) (by omega) (by omega)]; simp only [Option.bind_some]
    rw [nI_l (n := X k * X k % P * X k % P) (by omega), nI_l (n := A * X k % P) (by omega), nI_l (n := B) (by omega), show (5 : Int64) = lN 5 from rfl, show (2 : Int64) = lN 2 from rfl, lN_mul, lN_mul, lN_mul, lN_add, lN_add, modM N P _ h1 hP (by omega)]; simp only [Option.bind_some]
    rw [nI_l (by omega), nI_l (by omega), lN_add, lN_add]
    refine ⟨_, rfl, ⟨k + 1, _, _, rfl, rfl, nI_1 k, by omega, by omega, pv, by omega, by omega, ?_, ?_⟩, ?_⟩
    · rw [show k + 1 - 1 = (k - 1) + 1 by omega]
      show _ = (qT X A (k - 1) + (3 * X (k - 1 + 1) * X (k - 1 + 1) + A)) % P
      rw [show k - 1 + 1 = k by omega]
      exact q_r1 ms
    · rw [show k + 1 - 1 = (k - 1) + 1 by omega]
      show _ = (qW X A B (k - 1) + (5 * (X (k - 1 + 1) * X (k - 1 + 1) * X (k - 1 + 1)) + 3 * (A * X (k - 1 + 1)) + 2 * B)) % P
      rw [show k - 1 + 1 = k by omega]
      exact q_r2 mw
    · show 1000 - (nI k + 1).toNatClampNeg < 1000 - (nI k).toNatClampNeg
      rw [nI_1, nI_clamp (by omega), nI_clamp (by omega)]; omega
theorem qA_lt {P A t : Nat} (h1 : 1 ≤ P) : qA P A t < P := by
  unfold qA
  have := Int.emod_lt_of_pos ((A : Int) - 5 * ((t % P : Nat) : Int)) (show (0 : Int) < P by omega)
  have := Int.emod_nonneg ((A : Int) - 5 * ((t % P : Nat) : Int)) (show (P : Int) ≠ 0 by omega)
  omega
theorem qB_lt {P B t : Nat} (h1 : 1 ≤ P) : qB P B t < P := by
  unfold qB
  have := Int.emod_lt_of_pos ((B : Int) - 7 * ((t % P : Nat) : Int)) (show (0 : Int) < P by omega)
  have := Int.emod_nonneg ((B : Int) - 7 * ((t % P : Nat) : Int)) (show (P : Int) ≠ 0 by omega)
  omega
/-- the made curve isn't singular -/
theorem quoNS {F : Type} [mFld F] {P A B : Nat} {φ : Int → F} (hc : CX F P A B φ) {U : EP (φ A) (φ B)} {o : Nat} (oU : isOrd (gO hc) ez o U) {X Y : Nat → Nat} (hX : ∀ k, 0 < k → k < o → X k < P ∧ Y k < P ∧ (gm (gO hc) ez k U).1 = some (φ (X k : Nat), φ (Y k : Nat))) : disc P (qA P A (qT X A (o - 1))) (qB P B (qW X A B (o - 1))) ≠ 0 := by
  have hc0 := hc
  obtain ⟨hF, hp, h5, hP, hA, hB, -⟩ := hc0
  have h1 : 1 ≤ P := by omega
  have e2 : φ 2 = 2 := gf_num hF 2
  have e3 : φ 3 = 3 := gf_num hF 3
  have e5 : φ 5 = 5 := gf_num hF 5
  have e7 : φ 7 = 7 := gf_num hF 7
  have ksx : ∀ i, 0 < i → i < o → kx (cx2 hc) (cxn hc) U i = φ (X i : Nat) := fun i i0 hi => by
    show xof (gm (gO hc) ez i U).1 = _
    rw [(hX i i0 hi).2.2]; rfl
  have sT : ∀ k, k ≤ o - 1 → φ ((qT X A k : Nat) : Int) = rs k (fun i => 3 * kx (cx2 hc) (cxn hc) U (i + 1) * kx (cx2 hc) (cxn hc) U (i + 1) + φ A) := fun k => by
    induction k with
    | zero => intro _; exact hm_zero hF.1
    | succ k ih =>
      intro hk
      show φ ((qT X A k + (3 * X (k + 1) * X (k + 1) + A) : Nat) : Int) = rs k _ + _
      rw [Int.natCast_add, hF.1.2.1, ih (by omega)]
      refine congrArg (fun z => rs k _ + z) ?_
      dsimp only
      rw [ksx (k + 1) (by omega) (by omega)]
      have e3' : φ ((3 : Nat) : Int) = 3 := e3
      simp only [Int.natCast_add, Int.natCast_mul, hF.1.2.1, hF.1.2.2, e3']
  have sW : ∀ k, k ≤ o - 1 → φ ((qW X A B k : Nat) : Int) = rs k (fun i => 5 * (kx (cx2 hc) (cxn hc) U (i + 1) * kx (cx2 hc) (cxn hc) U (i + 1) * kx (cx2 hc) (cxn hc) U (i + 1)) + 3 * (φ A * kx (cx2 hc) (cxn hc) U (i + 1)) + 2 * φ B) := fun k => by
    induction k with
    | zero => intro _; exact hm_zero hF.1
    | succ k ih =>
      intro hk
      show φ ((qW X A B k + (5 * (X (k + 1) * X (k + 1) * X (k + 1)) + 3 * (A * X (k + 1)) + 2 * B) : Nat) : Int) = rs k _ + _
      rw [Int.natCast_add, hF.1.2.1, ih (by omega)]
      refine congrArg (fun z => rs k _ + z) ?_
      dsimp only
      rw [ksx (k + 1) (by omega) (by omega)]
      have e3' : φ ((3 : Nat) : Int) = 3 := e3
      have e5' : φ ((5 : Nat) : Int) = 5 := e5
      have e2' : φ ((2 : Nat) : Int) = 2 := e2
      simp only [Int.natCast_add, Int.natCast_mul, hF.1.2.1, hF.1.2.2, e3', e5', e2']
  have aA : φ ((qA P A (qT X A (o - 1)) : Nat) : Int) = φ A - 5 * rs (o - 1) (fun i => 3 * kx (cx2 hc) (cxn hc) U (i + 1) * kx (cx2 hc) (cxn hc) U (i + 1) + φ A) := by
    unfold qA
    have nn := Int.emod_nonneg ((A : Int) - 5 * ((qT X A (o - 1) % P : Nat) : Int)) (show (P : Int) ≠ 0 by omega)
    rw [Int.toNat_of_nonneg nn, gf_mod hF, hm_sub hF.1, hF.1.2.2, gf_modN hF, e5, sT _ (Nat.le_refl _)]
  have aB : φ ((qB P B (qW X A B (o - 1)) : Nat) : Int) = φ B - 7 * rs (o - 1) (fun i => 5 * (kx (cx2 hc) (cxn hc) U (i + 1) * kx (cx2 hc) (cxn hc) U (i + 1) * kx (cx2 hc) (cxn hc) U (i + 1)) + 3 * (φ A * kx (cx2 hc) (cxn hc) U (i + 1)) + 2 * φ B) := by
    unfold qB
    have nn := Int.emod_nonneg ((B : Int) - 7 * ((qW X A B (o - 1) % P : Nat) : Int)) (show (P : Int) ≠ 0 by omega)
    rw [Int.toNat_of_nonneg nn, gf_mod hF, hm_sub hF.1, hF.1.2.2, gf_modN hF, e7, sW _ (Nat.le_refl _)]
  intro z
  have gd := gf_disc hF (qA P A (qT X A (o - 1))) (qB P B (qW X A B (o - 1)))
  rw [z] at gd
  have gd := gd.symm.trans (hm_zero hF.1)
  by_cases p5 : P = 5
  · subst p5
    have o12 : o < 12 := by
      have := Nat.le_of_dvd (cnt_pos 5 A B 5) ((ord_dvd (gO_ab hc) oU _).mp (cx_lagr hc U))
      have := cnt_le 5 A B 5
      omega
    exact velu5 hc oU o12 aA aB gd
  · have p7 : 7 ≤ P := by
      rcases Nat.lt_or_ge P 7 with y | y
      · have : P = 6 := by omega
        subst this
        exact absurd rfl (hp 2 (by omega) (by omega))
      · exact y
    exact velu_fp (gf_fp hF hp (by omega)) (pr_odd hp h5) (by omega) (gf_ch hF).1 (gf_ch hF).2 (prm_isp hp (by omega)) oU aA aB gd
