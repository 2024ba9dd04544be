/-- how many points have order n, by the two numbers -/
theorem manyC {N : Nat} (hN : 2 ^ 64 ≤ N) {G : Type} {op : G → G → G} {e : G} {iv : G → G} (h : isAb op e iv) {all : List G} (a : isAll all) (few : ∀ q, prm q → kap op e all q < q * q * q) (cb : all.length ≤ 10298) {I O : Nat} (io : isIO op e all I O) (hI : I ≤ 10298) (hO : O ≤ 10298) {n : Nat} (n0 : 0 < n) (hn : n < 2 ^ 31) : mX0_manyOfOrder N (nI I) (nI O) (nI n) = some (nI (wrd op e all n)) := by
  have wl : ∀ m, wrd op e all m ≤ 10298 := fun m => Nat.le_trans (by unfold wrd cN; have := fl_len (fun x => isOrd op e m x) all; omega) cb
  have kl : ∀ m, kap op e all m ≤ 10298 := fun m => Nat.le_trans (by unfold kap cN; have := fl_len (fun x => gm op e m x = e) all; omega) cb
  unfold mX0_manyOfOrder
  by_cases c : n ≤ O
  · rw [if_pos (nI_le c (by omega))]
    obtain ⟨⟨o1, o2, o3⟩, eo, ho⟩ := mi_run_ok (mX0_manyOfOrder_b17 N (nI I) (nI O)) (fun s => ∃ D R t : Nat, s.1 = nI (wrd op e all D) ∧ s.2.1 = nI R ∧ s.2.2 = nI t ∧ n = D * R ∧ Nat.Coprime D R ∧ R * 2 ^ t ≤ n) (fun s => s.1 = nI (wrd op e all n)) (fun s => 64 - s.2.2.toNatClampNeg) (by
      rintro ⟨x1, x2, x3⟩ ⟨D, R, t, e1, e2, e3, eD, cp, rt⟩
      have e1 : x1 = nI (wrd op e all D) := e1
      have e2 : x2 = nI R := e2
      have e3 : x3 = nI t := e3
      subst e1 e2 e3
      have R0 : 0 < R := by
        rcases Nat.eq_zero_or_pos R with z | z
        · rw [z] at eD; omega
        · exact z
      have D0 : 0 < D := by
        rcases Nat.eq_zero_or_pos D with z | z
        · rw [z, Nat.zero_mul] at eD; omega
        · exact z
      have RC : R ≤ n := by have := Nat.le_mul_of_pos_left R D0; omega
      have t13 : t ≤ 13 := by
        refine pow13 (q := 2) (by omega) ?_
        have := Nat.le_mul_of_pos_left (2 ^ t) R0
        omega
      dsimp only [mX0_manyOfOrder_b17, mi_let]
      rw [if_neg (show ¬ 32 ≤ nI t from nI_ge (b := 32) (by omega) (by omega))]
      by_cases r1 : R ≤ 1
      · right
        have R1 : R = 1 := by omega
        subst R1
        rw [if_pos (show nI 1 ≤ 1 by decide)]
        exact ⟨_, rfl, by show nI (wrd op e all D) = _; rw [eD, Nat.mul_one]⟩
      · left
        rw [if_neg (show ¬ nI R ≤ 1 from nI_ge (a := 1) (by omega) (by omega))]
        obtain ⟨q, el, pq, qR, -⟩ := lf2 N hN R (by omega) (by omega)
        have q2 := pq.1
        have qle := Nat.le_of_dvd R0 qR
        obtain ⟨k, m, ek, nm, ep⟩ := partC hN (n := R) (q := q) R0 (by omega) q2 (by omega)
        rw [el]; simp only [Option.bind_some]; rw [ep]; simp only [Option.bind_some]
        have qk : 0 < q ^ k := Nat.pow_pos (by omega)
        have m0 : 0 < m := by
          rcases Nat.eq_zero_or_pos m with z | z
          · rw [z] at ek; omega
          · exact z
        have qkR : q ^ k ≤ R := by have := Nat.le_mul_of_pos_right (q ^ k) m0; omega
        have k1 : 1 ≤ k := by
          rcases Nat.eq_zero_or_pos k with z | z
          · rw [z, Nat.pow_zero, Nat.one_mul] at ek
            rw [ek] at qR; exact absurd qR nm
          · exact z
        have em : R / q ^ k = m := by rw [ek]; exact Nat.mul_div_cancel_left _ qk
        have ek1 : q ^ k / q = q ^ (k - 1) := by
          conv => lhs; rw [show k = (k - 1) + 1 by omega, Nat.pow_succ]
          exact Nat.mul_div_cancel _ (by omega)
        have qk1 : 0 < q ^ (k - 1) := Nat.pow_pos (by omega)
        have qk1b : q ^ (k - 1) ≤ q ^ k := Nat.pow_le_pow_right (by omega) (by omega)
        rw [if_neg (nI_ne0 qk (by omega)), pk_div (by omega) qk (by omega), em, killC hN qk (by omega) hI hO]; simp only [Option.bind_some]
        rw [if_neg (nI_ne0 (by omega) (by omega)), pk_div (by omega) (by omega) (by omega), ek1, killC hN qk1 (by omega) hI hO]; simp only [Option.bind_some]
        rw [← io_kap h a few io _ qk, ← io_kap h a few io _ qk1]
        have w := wrd_q h a pq (k - 1)
        rw [show k - 1 + 1 = k by omega] at w
        have sb : nI (kap op e all (q ^ k)) - nI (kap op e all (q ^ (k - 1))) = nI (wrd op e all (q ^ k)) := by
          rw [nI_zI, nI_zI, nI_zI, zI_sub]; congr 1; omega
        have cd : Nat.Coprime D (q ^ k) := Nat.Coprime.coprime_dvd_right ⟨m, ek⟩ cp
        have q2k : 2 ≤ q ^ k := Nat.le_trans (Nat.le_trans q2 (Nat.le_of_eq (Nat.pow_one q).symm)) (Nat.pow_le_pow_right (by omega) k1)
        refine ⟨_, rfl, ⟨D * q ^ k, m, t + 1, ?_, rfl, nI_1 t, by rw [eD, ek, Nat.mul_assoc], ?_, ?_⟩, ?_⟩
        · show nI (wrd op e all D) * (_ - _) = _
          rw [sb, pk_mul, wrd_mul h a D0 qk cd]
        · refine Nat.Coprime.mul_left ?_ (cop_pow (prm_cop pq nm) k)
          exact Nat.Coprime.coprime_dvd_right ⟨q ^ k, by rw [ek, Nat.mul_comm]⟩ cp
        · have : m * 2 ^ (t + 1) ≤ R * 2 ^ t := by
            rw [Nat.pow_succ, ek, Nat.mul_comm (2 ^ t) 2, ← Nat.mul_assoc]
            exact Nat.mul_le_mul_right _ (by rw [Nat.mul_comm]; exact Nat.mul_le_mul_right _ q2k)
          omega
        · show 64 - (nI t + 1).toNatClampNeg < 64 - (nI t).toNatClampNeg
          rw [nI_1, nI_clamp (by omega), nI_clamp (by omega)]; omega) N (1, nI n, 0) ⟨1, n, 0, by rw [wrd_1 h a]; rfl, rfl, rfl, by rw [Nat.one_mul], by unfold Nat.Coprime; rw [Nat.gcd_one_left], by rw [Nat.pow_zero, Nat.mul_one]; exact Nat.le_refl _⟩ (by show 64 - _ < N; omega)
    have ho : o1 = nI (wrd op e all n) := ho
    rw [eo, ho]; rfl
  · rw [if_neg (nI_ge (by omega) (by omega))]
    have O0 : 0 < O := by
      rcases Nat.eq_zero_or_pos O with z | z
      · exfalso
        have := io.1
        rw [z, Nat.mul_zero] at this
        have e1 := a.2 e
        rw [List.eq_nil_of_length_eq_zero this.symm] at e1
        cases e1
      · exact z
    rw [wrd_big h a few io (fun z => by have := Nat.le_of_dvd O0 z; omega)]; rfl
theorem ordK {F : Type} [mFld F] {P A B : Nat} {φ : Int → F} (hc : CX F P A B φ) {N : Nat} (hN : 2 ^ 64 ≤ N) {rt : Int32} {f g pts ah : Nat → Int32} (h : CU P A B (nI P) (nI A) (nI B) rt (nI (cnt P A B P)) f g pts ah) {u : Int32} {U : EP (φ A) (φ B)} (hu : pe P φ u U.1) {o : Nat} (ho : isOrd (gO hc) ez o U) : mX6_orderOf N (nI P) (nI A) (nI B) (nI (cnt P A B P)) f g pts ah u = some (nI o, nI (cnt P A B P), pts, ah) := by
  have hcn := cnt_b h
  have d : o ∣ cnt P A B P := (ord_dvd (gO_ab hc) ho _).mp (cx_lagr hc U)
  obtain ⟨l, d, e2⟩ := ordR17 hc hN h.inv hu ho hcn.1 (by omega) d
  unfold mX6_orderOf mX6_list
  rw [if_neg (show ¬ nI (cnt P A B P) ≤ 0 from nI_ge (a := 0) (by omega) (by omega))]; simp only [Option.bind_some]
  rw [e2]; rfl
theorem ofoR {N : Nat} (hN : 2 ^ 64 ≤ N) {F : Type} [mFld F] {P A B : Nat} {φ : Int → F} (hc : CX F P A B φ) {rt : Int32} {f g pts ah : Nat → Int32} (hU : CU P A B (nI P) (nI A) (nI B) rt (nI (cnt P A B P)) f g pts ah) (hL : LK P A B P pts ah) {W : Nat → EP (φ A) (φ B)} (hW : ∀ j, j < cnt P A B P → pe P φ (pts j) (W j).1) {n : Nat} (n0 : 0 < n) (hn : n < 2 ^ 31) (nd : n ∣ cnt P A B P) : ∃ o, mi_run (mX6_ofOrder_b25 N (nI n) (nI P) (nI A) (nI B) f g) N (0, 0, nI (cnt P A B P), pts, ah) = some o ∧ o.1 = nI (ctN (fun j => isOrd (gO hc) ez n (W j)) (cnt P A B P)) ∧ o.2.2.1 = nI (cnt P A B P) ∧ o.2.2.2.1 = pts ∧ o.2.2.2.2 = ah := by
  have cb := cnt_b hU
  have tk : ∀ k, (fun j => isOrd (gO hc) ez n (W j)) k ↔ isOrd (gO hc) ez n (W k) := fun k => Iff.rfl
  generalize eT : (fun j => isOrd (gO hc) ez n (W j)) = T at *
  refine mi_run_ok (mX6_ofOrder_b25 N (nI n) (nI P) (nI A) (nI B) f g) (fun s => ∃ k, k ≤ cnt P A B P ∧ s.2.1 = nI k ∧ s.1 = nI (ctN T k) ∧ s.2.2.1 = nI (cnt P A B P) ∧ s.2.2.2.1 = pts ∧ s.2.2.2.2 = ah) _ (fun s => 20000 - s.2.1.toNatClampNeg) ?_ N (0, 0, nI (cnt P A B P), pts, ah) ⟨0, by omega, rfl, rfl, rfl, rfl, rfl⟩ (by show 20000 - _ < N; omega)
  rintro ⟨x1, x2, x3, x4, x5⟩ ⟨k, hk, e2, e1, e3, e4, e5⟩
  have e1 : x1 = nI (ctN T k) := e1
  have e2 : x2 = nI k := e2
  have e3 : x3 = nI (cnt P A B P) := e3
  have e4 : x4 = pts := e4
  have e5 : x5 = ah := e5
  subst e1 e2 e3 e4 e5
  dsimp only [mX6_ofOrder_b25, mi_let]
  by_cases c : cnt P A B P ≤ k
  · right; rw [if_pos (nI_le c (by omega))]
    have : k = cnt P A B P := by omega
    subst this
    exact ⟨_, rfl, rfl, rfl, rfl, rfl⟩
  · left
    have dn : 20000 - (nI k + 1).toNatClampNeg < 20000 - k := by rw [nI_1, nI_clamp (by omega)]; omega
    obtain ⟨o, oo⟩ := cx_ord hc (W k)
    have el := ordK hc hN hU (hW k (by omega)) oo
    have ob : o ≤ 10298 := by
      have := Nat.le_of_dvd cb.1 ((ord_dvd (gO_ab hc) oo _).mp (cx_lagr hc (W k)))
      omega
    rw [if_neg (nI_ge (by omega) (by omega)), if_neg (nI_ne0 n0 hn), rem_nI (by omega) n0 hn, Nat.mod_eq_zero_of_dvd nd, if_pos (show nI 0 = 0 from rfl), if_neg (ix_nI (by omega) (by omega)), nI_clamp (by omega), el]; simp only [Option.bind_some]
    by_cases d : o = n
    · subst d
      rw [if_pos rfl]
      exact ⟨_, rfl, ⟨k + 1, by omega, nI_1 k, by rw [ctN_y ((tk k).mpr oo)]; exact nI_1 _, rfl, rfl, rfl⟩, dn⟩
    · rw [if_neg (fun z => d ((nI_eq (by omega) hn).mp z))]
      refine ⟨_, rfl, ⟨k + 1, by omega, nI_1 k, ?_, rfl, rfl, rfl⟩, dn⟩
      rw [ctN_n (fun z => d (ord_uniq (gO_ab hc) oo ((tk k).mp z)))]
      exact nI_add _ 0
theorem V_ofOrder {N : Nat} (hN : 2 ^ 64 ≤ N) {P A B : Nat} {p a b rt pm cu : Int32} {f g pts ah ps as bs : Nat → Int32} {c : Int32} {pm1 : Int32} {f1 g1 : Nat → Int32} (hh : mX6_has N p a b rt pm cu f g ps as bs c = some (1, nI P, nI A, nI B, nI P, pm1, f1, g1)) (hU : CU P A B (nI P) (nI A) (nI B) (nI P) pm1 f1 g1 pts ah) {pr : Int32} {gl : Nat → Int32} (ht : tabC pr gl) {q : Int32} (hq : q = 0 ∨ q = nI (cnt P A B P)) (hd : disc P A B ≠ 0) {od reach back : Int32} {st ends : Nat → Int32} (hS : SD reach st ends) {ii oo : Int32} (hI : ii = 0 ∨ IOc P A B ii oo) (x : Int32) : ∃ r pr1 gl1 od1 r1 b1 st1 en1 q1 ii1 oo1, mX5_ofOrder_s N pr gl od reach back st ends (nI P) (nI A) (nI B) q ii oo c x = some (r, pr1, gl1, od1, r1, b1, st1, en1, q1, ii1, oo1) ∧ tabC pr1 gl1 ∧ SD r1 st1 en1 ∧ (q1 = 0 ∨ q1 = nI (cnt P A B P)) ∧ (ii1 = 0 ∨ IOc P A B ii1 oo1) ∧ ((ii1 = ii ∧ oo1 = oo) ∨ IOc P A B ii1 oo1) ∧ ∃ pm2 pts1 ah1, mX6_ofOrder N p a b rt pm cu f g pts ah ps as bs c x = some (r, nI P, nI A, nI B, nI P, pm2, f1, g1, pts1, ah1) ∧ CU P A B (nI P) (nI A) (nI B) (nI P) pm2 f1 g1 pts1 ah1 := by
  obtain ⟨h1, hP, h5, hp, hA, hB⟩ := hU.pos
  unfold mX5_ofOrder_s mX6_ofOrder
  rw [hh]; simp only [Option.bind_some]; rw [if_neg (show ¬ (1 : Int32) = 0 by decide)]
  by_cases x1 : 1 ≤ x
  · rw [if_pos x1, if_pos x1]
    obtain ⟨n, rfl, n0, hn⟩ := one_le x1
    have cb := cnt_b hU
    obtain ⟨pr1, od1, r1, b1, gl1, st1, en1, q1, i1, o1, es, t1, s1, hq1, hI1⟩ := setE hN hp h5 hP hA hB hd ht hq (od := od) (back := back) hS hI
    have hI2 := hI1
    obtain ⟨I, O, rfl, rfl, I0, Ib, eO, IO, ioa⟩ := hI2
    have Ob : O ≤ 10298 := by have := Nat.le_mul_of_pos_left O I0; omega
    obtain ⟨t, q', el, hC, hL⟩ := listE N (by omega) hU
    obtain ⟨F, i, φ, hc⟩ := cx_ex hp h5 hP hA hB hd
    obtain ⟨W, hW, al, few, W0⟩ := pl_ex hc hL
    have len : ((List.range (cnt P A B P)).map W).length = cnt P A B P := by rw [List.length_map, List.length_range]
    have em := manyC hN (gO_ab hc) al few (by rw [len]; omega) (ioa F i φ hc _ al) Ib Ob n0 hn
    rw [es]; simp only [Option.bind_some]; rw [em, el]; simp only [Option.bind_some]
    by_cases nd : n ∣ cnt P A B P
    · obtain ⟨⟨w1, w2, w3, w4, w5⟩, eo, ho1, ho2, ho3, ho4⟩ := ofoR hN hc hC hL hW n0 hn nd
      have ho1 : w1 = nI (ctN (fun j => isOrd (gO hc) ez n (W j)) (cnt P A B P)) := ho1
      have ho2 : w3 = nI (cnt P A B P) := ho2
      have ho3 : w4 = t := ho3
      have ho4 : w5 = q' := ho4
      subst ho1 ho2 ho3 ho4
      have e1 : wrd (gO hc) ez ((List.range (cnt P A B P)).map W) n = ctN (fun j => isOrd (gO hc) ez n (W j)) (cnt P A B P) := ctN_fl (fun x => isOrd (gO hc) ez n x) W _
      rw [eo, e1]
      exact ⟨_, _, _, _, _, _, _, _, _, _, _, rfl, t1, s1, hq1, Or.inr hI1, Or.inr hI1, _, _, _, rfl, hC⟩
    · have e1 : wrd (gO hc) ez ((List.range (cnt P A B P)).map W) n = 0 := wrd_big (gO_ab hc) al few (ioa F i φ hc _ al) (fun z => nd (Nat.dvd_trans z ⟨I, by rw [← IO, Nat.mul_comm]⟩))
      obtain ⟨M, hM⟩ : ∃ M, N = M + 1 := ⟨N - 1, by omega⟩
      have : mi_run (mX6_ofOrder_b25 N (nI n) (nI P) (nI A) (nI B) f1 g1) N (0, 0, nI (cnt P A B P), t, q') = some (0, 0, nI (cnt P A B P), t, q') := by
        rw [show mi_run (mX6_ofOrder_b25 N (nI n) (nI P) (nI A) (nI B) f1 g1) N (0, 0, nI (cnt P A B P), t, q') = mi_run (mX6_ofOrder_b25 N (nI n) (nI P) (nI A) (nI B) f1 g1) (M + 1) (0, 0, nI (cnt P A B P), t, q') by rw [← hM]]
        show (mX6_ofOrder_b25 N (nI n) (nI P) (nI A) (nI B) f1 g1 (0, 0, nI (cnt P A B P), t, q')).bind _ = _
        rw [show mX6_ofOrder_b25 N (nI n) (nI P) (nI A) (nI B) f1 g1 (0, 0, nI (cnt P A B P), t, q') = some (.inr (0, 0, nI (cnt P A B P), t, q')) from by
          dsimp only [mX6_ofOrder_b25, mi_let]
          rw [if_neg (show ¬ nI (cnt P A B P) ≤ 0 from nI_ge (a := 0) (by omega) (by omega)), if_neg (nI_ne0 n0 hn), rem_nI (by omega) n0 hn, if_neg (nI_ne0 (by
            rcases Nat.eq_zero_or_pos (cnt P A B P % n) with z | z
            · exact absurd (Nat.dvd_of_mod_eq_zero z) nd
            · exact z) (by have := Nat.mod_le (cnt P A B P) n; omega))]]
        rfl
      rw [this, e1]
      exact ⟨_, _, _, _, _, _, _, _, _, _, _, rfl, t1, s1, hq1, Or.inr hI1, Or.inr hI1, _, _, _, rfl, hC⟩
  · rw [if_neg x1, if_neg x1]
    exact ⟨_, _, _, _, _, _, _, _, _, _, _, rfl, ht, hS, hq, hI, Or.inl ⟨rfl, rfl⟩, _, _, _, rfl, hU⟩
