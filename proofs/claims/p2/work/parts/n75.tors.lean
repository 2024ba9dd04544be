theorem gcdL {N : Nat} (hN : 2 ^ 64 ≤ N) {a b : Nat} (ha : 0 < a) (ha2 : a < 2 ^ 31) (hb : b ≤ 20000) : mX4_commonPart N (nI a) (nI b) = some (nI (Nat.gcd a b)) := by
  obtain ⟨o, ho, q⟩ := mi_run_ok (mX4_commonPart_b7 N) (fun s => ∃ x y t : Nat, s.1 = nI x ∧ s.2.1 = nI y ∧ s.2.2 = nI t ∧ t ≤ 64 ∧ x < 2 ^ 31 ∧ y ≤ 20000 ∧ Nat.gcd x y = Nat.gcd a b ∧ (t = 0 ∨ (y ≤ x ∧ 0 < x ∧ x * y * 2 ^ (t - 1) ≤ 2 ^ 29))) (fun o => o.1 = nI (Nat.gcd a b)) (fun s => 64 - s.2.2.toNatClampNeg) (by
    rintro ⟨x1, x2, x3⟩ ⟨x, y, t, e1, e2, e3, t64, hx, hy, hg, hm⟩
    have e1' : x1 = nI x := e1
    have e2' : x2 = nI y := e2
    have e3' : x3 = nI t := e3
    subst e1' e2' e3'
    dsimp only [mX4_commonPart_b7, mi_let]
    have fin : y = 0 → nI x = nI (Nat.gcd a b) := fun z => by rw [← hg, z, Nat.gcd_zero_right]
    by_cases c : 64 ≤ t
    · right
      rw [if_pos (show (64 : Int32) ≤ nI t from nI_le (a := 64) c (by omega))]
      refine ⟨_, rfl, fin ?_⟩
      rcases hm with z | ⟨-, x0, m⟩
      · omega
      · refine Classical.byContradiction fun y0 => ?_
        have h1 : 1 ≤ x * y := Nat.mul_pos x0 (by omega)
        have h2 : 2 ^ 30 ≤ 2 ^ (t - 1) := Nat.pow_le_pow_right (by omega) (by omega)
        have h3 : 1 * 2 ^ (t - 1) ≤ x * y * 2 ^ (t - 1) := Nat.mul_le_mul_right _ h1
        omega
    · rw [if_neg (show ¬ (64 : Int32) ≤ nI t from nI_ge (b := 64) (by omega) (by omega))]
      by_cases y0 : y = 0
      · right
        rw [if_pos (show nI y = 0 by rw [y0]; rfl)]
        exact ⟨_, rfl, fin y0⟩
      · left
        have yz : ¬ nI y = 0 := nI_ne0 (by omega) (by omega)
        rw [if_neg yz, if_neg yz, rem_nI (by omega) (by omega) (by omega)]
        have ml : x % y < y := Nat.mod_lt _ (by omega)
        refine ⟨_, rfl, ⟨y, x % y, t + 1, rfl, rfl, nI_1 t, by omega, by omega, by omega, ?_, Or.inr ⟨by omega, by omega, ?_⟩⟩, ?_⟩
        · rw [← hg, Nat.gcd_comm x y, Nat.gcd_rec y x, Nat.gcd_comm]
        · rcases hm with z | ⟨yx, x0, m⟩
          · subst z
            have : y * (x % y) ≤ 20000 * 20000 := Nat.mul_le_mul hy (by omega)
            show y * (x % y) * 2 ^ (0 + 1 - 1) ≤ 2 ^ 29
            rw [show 0 + 1 - 1 = 0 from rfl, Nat.pow_zero, Nat.mul_one]; omega
          · by_cases t0 : t = 0
            · subst t0
              have : y * (x % y) ≤ 20000 * 20000 := Nat.mul_le_mul hy (by omega)
              show y * (x % y) * 2 ^ (0 + 1 - 1) ≤ 2 ^ 29
              rw [show 0 + 1 - 1 = 0 from rfl, Nat.pow_zero, Nat.mul_one]; omega
            · have hh : 2 * (x % y) ≤ x := by
                have d1 : 1 ≤ x / y := Nat.div_pos yx (by omega)
                have := Nat.div_add_mod x y
                have : y * 1 ≤ y * (x / y) := Nat.mul_le_mul_left y d1
                omega
              have h2 : 2 ^ (t + 1 - 1) = 2 * 2 ^ (t - 1) := by rw [Nat.mul_comm, ← Nat.pow_succ]; congr 1; omega
              rw [h2]
              calc y * (x % y) * (2 * 2 ^ (t - 1)) = y * (2 * (x % y)) * 2 ^ (t - 1) := by grind
                _ ≤ y * x * 2 ^ (t - 1) := Nat.mul_le_mul_right _ (Nat.mul_le_mul_left _ hh)
                _ = x * y * 2 ^ (t - 1) := by rw [Nat.mul_comm y x]
                _ ≤ 2 ^ 29 := m
        · show 64 - (nI t + 1).toNatClampNeg < 64 - (nI t).toNatClampNeg
          rw [nI_1, nI_clamp (by omega), nI_clamp (by omega)]; omega) N (nI a, nI b, 0) ⟨a, b, 0, rfl, rfl, rfl, by omega, ha2, hb, rfl, Or.inl rfl⟩ (by show 64 - _ < N; omega)
  unfold mX4_commonPart
  rw [ho]
  obtain ⟨o1, o2, o3⟩ := o
  exact congrArg some q
/-! the embedding degree: the least k of which p^k is 1 modulo n -/
theorem killC {N : Nat} (hN : 2 ^ 64 ≤ N) {I O n : Nat} (n0 : 0 < n) (hn : n < 2 ^ 31) (hI : I ≤ 10298) (hO : O ≤ 10298) : mX0_manyKilledBy N (nI I) (nI O) (nI n) = some (nI (Nat.gcd n I * Nat.gcd n O)) := by
  unfold mX0_manyKilledBy
  rw [gcdL hN n0 hn (by omega), gcdL hN n0 hn (by omega)]
  simp only [Option.bind_some]; rw [pk_mul]
theorem torR {N : Nat} (hN : 2 ^ 64 ≤ N) {F : Type} [mFld F] {P A B : Nat} {φ : Int → F} (hc : CX F P A B φ) {f pts : Nat → Int32} (hf : invOK P f) {W : Nat → EP (φ A) (φ B)} (hW : ∀ j, j < cnt P A B P → pe P φ (pts j) (W j).1) (cb : cnt P A B P ≤ 10298) {n : Nat} (hn : n < 2 ^ 31) : ∃ o, mi_run (mX6_torsion_b25 N (nI (cnt P A B P)) pts (nI P) (nI A) f (nI n)) N (0, 0) = some o ∧ o.1 = nI (ctN (fun j => gm (gO hc) ez n (W j) = ez) (cnt P A B P)) := by
  have tk : ∀ k, (fun j => gm (gO hc) ez n (W j) = ez) k ↔ gm (gO hc) ez n (W k) = ez := fun k => Iff.rfl
  generalize eT : (fun j => gm (gO hc) ez n (W j) = ez) = T at *
  refine mi_run_ok (mX6_torsion_b25 N (nI (cnt P A B P)) pts (nI P) (nI A) f (nI n)) (fun s => ∃ k, k ≤ cnt P A B P ∧ s.2 = nI k ∧ s.1 = nI (ctN T k)) _ (fun s => 20000 - s.2.toNatClampNeg) ?_ N (0, 0) ⟨0, by omega, rfl, rfl⟩ (by show 20000 - _ < N; omega)
  rintro ⟨x1, x2⟩ ⟨k, hk, e2, e1⟩
  have e1 : x1 = nI (ctN T k) := e1
  have e2 : x2 = nI k := e2
  subst e1 e2
  dsimp only [mX6_torsion_b25, mi_let]
  by_cases c : cnt P A B P ≤ k
  · right; rw [if_pos (nI_le c (by omega))]
    have : k = cnt P A B P := by omega
    subst this
    exact ⟨_, rfl, rfl⟩
  · left
    have dn : 20000 - (nI k + 1).toNatClampNeg < 20000 - k := by rw [nI_1, nI_clamp (by omega)]; omega
    obtain ⟨w, ew, pw⟩ := multR hc hN hf (hW k (by omega)) (nI n).toInt64
    rw [nI_l_toInt (by omega), gz_nat] at pw
    have s2 : w = -1 ↔ T k := by
      rw [tk, pe_none hc.2.2.2.1 pw]
      exact ⟨fun z => Subtype.ext z, fun z => by rw [z]; rfl⟩
    rw [if_neg (nI_ge (by omega) (by omega)), if_neg (ix_nI (by omega) (by omega)), nI_clamp (by omega), ew]; simp only [Option.bind_some]
    by_cases d : w = -1
    · rw [if_pos d]
      exact ⟨_, rfl, ⟨k + 1, by omega, nI_1 k, by rw [ctN_y (s2.mp d)]; exact nI_1 _⟩, dn⟩
    · rw [if_neg d]
      refine ⟨_, rfl, ⟨k + 1, by omega, nI_1 k, ?_⟩, dn⟩
      rw [ctN_n (fun z => d (s2.mpr z))]
      exact nI_add _ 0
theorem one_le {x : Int32} (h : 1 ≤ x) : ∃ n, x = nI n ∧ 0 < n ∧ n < 2 ^ 31 := by
  have h1 := Int32.le_iff_toInt_le.mp h
  rw [show (1 : Int32).toInt = 1 by decide] at h1
  have h2 := x.toInt_lt
  exact ⟨x.toInt.toNat, i32_toNat (by omega), by omega, by omega⟩
theorem V_torsion {N : Nat} (hN : 2 ^ 64 ≤ N) {P A B : Nat} {p a b rt pm cu : Int32} {f g pts ah ps as bs : Nat → Int32} {c : Int32} {pm1 : Int32} {f1 g1 : Nat → Int32} (hh : mX6_has N p a b rt pm cu f g ps as bs c = some (1, nI P, nI A, nI B, nI P, pm1, f1, g1)) (hU : CU P A B (nI P) (nI A) (nI B) (nI P) pm1 f1 g1 pts ah) {pr : Int32} {gl : Nat → Int32} (ht : tabC pr gl) {q : Int32} (hq : q = 0 ∨ q = nI (cnt P A B P)) (hd : disc P A B ≠ 0) {od reach back : Int32} {st ends : Nat → Int32} (hS : SD reach st ends) {ii oo : Int32} (hI : ii = 0 ∨ IOc P A B ii oo) (x : Int32) : ∃ r pr1 gl1 od1 r1 b1 st1 en1 q1 ii1 oo1, mX5_torsion_s N pr gl od reach back st ends (nI P) (nI A) (nI B) q ii oo c x = some (r, pr1, gl1, od1, r1, b1, st1, en1, q1, ii1, oo1) ∧ tabC pr1 gl1 ∧ SD r1 st1 en1 ∧ (q1 = 0 ∨ q1 = nI (cnt P A B P)) ∧ (ii1 = 0 ∨ IOc P A B ii1 oo1) ∧ ((ii1 = ii ∧ oo1 = oo) ∨ IOc P A B ii1 oo1) ∧ ∃ pm2 pts1 ah1, mX6_torsion N p a b rt pm cu f g pts ah ps as bs c x = some (r, nI P, nI A, nI B, nI P, pm2, f1, g1, pts1, ah1) ∧ CU P A B (nI P) (nI A) (nI B) (nI P) pm2 f1 g1 pts1 ah1 := by
  obtain ⟨h1, hP, h5, hp, hA, hB⟩ := hU.pos
  unfold mX5_torsion_s mX6_torsion
  rw [hh]; simp only [Option.bind_some]; rw [if_neg (show ¬ (1 : Int32) = 0 by decide)]
  by_cases x1 : 1 ≤ x
  · rw [if_pos x1, if_pos x1]
    obtain ⟨n, rfl, n0, hn⟩ := one_le x1
    have cb := cnt_b hU
    obtain ⟨pr1, od1, r1, b1, gl1, st1, en1, q1, i1, o1, es, t1, s1, hq1, hI1⟩ := setE hN hp h5 hP hA hB hd ht hq (od := od) (back := back) hS hI
    have hI2 := hI1
    obtain ⟨I, O, rfl, rfl, I0, Ib, eO, IO, ioa⟩ := hI2
    have Ob : O ≤ 10298 := by have := Nat.le_mul_of_pos_left O I0; omega
    obtain ⟨t, q', el, hC, hL⟩ := listE N (by omega) hU
    obtain ⟨F, i, φ, hc⟩ := cx_ex hp h5 hP hA hB hd
    obtain ⟨W, hW, al, few, W0⟩ := pl_ex hc hL
    obtain ⟨⟨w1, w2⟩, eo, ho⟩ := torR hN hc hU.invs hW (by omega) hn
    have ho : w1 = nI (ctN (fun j => gm (gO hc) ez n (W j) = ez) (cnt P A B P)) := ho
    have e1 := io_kap (gO_ab hc) al few (ioa F i φ hc _ al) n n0
    unfold kap cN at e1
    rw [ctN_fl (fun x => gm (gO hc) ez n x = ez) W] at e1
    rw [es]; simp only [Option.bind_some]; rw [killC hN n0 hn Ib Ob, el]; simp only [Option.bind_some]; rw [eo, ho, e1]
    exact ⟨_, _, _, _, _, _, _, _, _, _, _, rfl, t1, s1, hq1, Or.inr hI1, Or.inr hI1, _, _, _, rfl, hC⟩
  · rw [if_neg x1, if_neg x1]
    exact ⟨_, _, _, _, _, _, _, _, _, _, _, rfl, ht, hS, hq, hI, Or.inl ⟨rfl, rfl⟩, _, _, _, rfl, hU⟩
