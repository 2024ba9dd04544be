theorem isQ_un {G : Type} {op : G → G → G} {e : G} {all : List G} {q M K M' K' : Nat} (Q : isQ op e all q M K) (Q' : isQ op e all q M' K') : M = M' ∧ K = K' := by
  have q2 := Q.1.1
  obtain ⟨m, em, nm⟩ := Q.2.2.2.2
  obtain ⟨m', em', nm'⟩ := Q'.2.2.2.2
  have h1 := (pow_uniq Q.1 _ _ _ _ nm nm' (em.symm.trans em')).1
  have h2 : ∀ k, min k M + min k K = min k M' + min k K' := fun k => by
    have := (Q.2.2.1 k).symm.trans (Q'.2.2.1 k)
    have a := (Nat.pow_le_pow_iff_right (show 1 < q by omega)).mp (Nat.le_of_eq this)
    have b := (Nat.pow_le_pow_iff_right (show 1 < q by omega)).mp (Nat.le_of_eq this.symm)
    omega
  have a := h2 K
  have b := h2 K'
  have c := Q.2.1
  have d := Q'.2.1
  omega
/-- if q^2 points are killed by q, then q divides p - 1 -/
theorem tors_q {F : Type} [mFld F] {P A B : Nat} {φ : Int → F} (hc : CX F P A B φ) {all : List (EP (φ A) (φ B))} (al : isAll all) {q M K : Nat} (Q : isQ (gO hc) ez all q M K) (K0 : 0 < K) : q ∣ P - 1 := by
  have hc0 := hc
  obtain ⟨hF, hp, h5, hP, hA, hB, hn⟩ := hc0
  have q2 := Q.1.1
  have KM := Q.2.1
  refine full_tors (gf_fp hF hp (by omega)) (pr_odd hp h5) (by omega) (cx2 hc) (cxn hc) (q := q) (by omega) (fl (fun x => gm (gO hc) ez q x = ez) all) (fl_nodup al.1) ?_ (fun S hS => (fl_mem.mp hS).2)
  have := Q.2.2.1 1
  rw [Nat.pow_one, show min 1 M = 1 by omega, show min 1 K = 1 by omega] at this
  rw [show q * q = q ^ (1 + 1) by rw [Nat.pow_succ, Nat.pow_one]]
  exact this
theorem setC {N : Nat} (hN : 2 ^ 64 ≤ N) {F : Type} [mFld F] {P A B : Nat} {φ : Int → F} (hc : CX F P A B φ) {all : List (EP (φ A) (φ B))} (al : isAll all) (hl : all.length = cnt P A B P) (few : ∀ q, prm q → kap (gO hc) ez all q < q * q * q) (cb : cnt P A B P ≤ 10298) {pr : Int32} {gl : Nat → Int32} (ht : tabC pr gl) {od reach back : Int32} {st ends : Nat → Int32} (hS : SD reach st ends) : ∃ (o : Int32 × Int32 × Int32 × Int32 × Int32 × Int32 × Int32 × (Nat → Int32) × (Nat → Int32) × (Nat → Int32)) (I O : Nat), mi_run (mX3_settle_b19 N (nI P) (nI A) (nI B) (nI (cnt P A B P))) N (1, nI (cnt P A B P), 0, pr, od, reach, back, gl, st, ends) = some o ∧ o.1 = nI I ∧ tabC o.2.2.2.1 o.2.2.2.2.2.2.2.1 ∧ SD o.2.2.2.2.2.1 o.2.2.2.2.2.2.2.2.1 o.2.2.2.2.2.2.2.2.2 ∧ 0 < I ∧ I ≤ 10298 ∧ O = cnt P A B P / I ∧ isIO (gO hc) ez all I O := by
  have hc0 := hc
  obtain ⟨hF, hp, h5, hP, hA, hB, -⟩ := hc0
  have ab := gO_ab hc
  have c0 : 0 < cnt P A B P := cnt_pos P A B P
  generalize eC : cnt P A B P = C at *
  have inn : ∀ {q M K : Nat}, isQ (gO hc) ez all q M K → 1 ≤ M + K → ∀ {pr gl reach st ends}, tabC pr gl → SD reach st ends → ∃ pr1 o1 r1 b1 gl1 st1 en1, mX3_innerPart N pr reach gl st ends (nI P) (nI A) (nI B) (nI C) (nI q) (nI (q ^ (M + K))) = some (nI (q ^ K), pr1, o1, r1, b1, gl1, st1, en1) ∧ tabC pr1 gl1 ∧ SD r1 st1 en1 := fun Q MK _ _ _ _ _ t s => by
    have := innC hN hc al (by rw [hl, eC]) (by omega) Q MK t s
    rw [eC] at this; exact this
  obtain ⟨o, eo, I, D, h1, h2, h3, h4, h5', h6⟩ := mi_run_ok (mX3_settle_b19 N (nI P) (nI A) (nI B) (nI C)) (fun s => ∃ I R D t : Nat, s.1 = nI I ∧ s.2.1 = nI R ∧ s.2.2.1 = nI t ∧ tabC s.2.2.2.1 s.2.2.2.2.2.2.2.1 ∧ SD s.2.2.2.2.2.1 s.2.2.2.2.2.2.2.2.1 s.2.2.2.2.2.2.2.2.2 ∧ C = D * R ∧ Nat.Coprime D R ∧ R * 2 ^ t ≤ C ∧ I ∣ D ∧ ∀ q M K, isQ (gO hc) ez all q M K → (q ∣ R → ¬ q ∣ I) ∧ (¬ q ∣ R → ∃ i, I = q ^ K * i ∧ ¬ q ∣ i))
    (fun s => ∃ I D : Nat, s.1 = nI I ∧ tabC s.2.2.2.1 s.2.2.2.2.2.2.2.1 ∧ SD s.2.2.2.2.2.1 s.2.2.2.2.2.2.2.2.1 s.2.2.2.2.2.2.2.2.2 ∧ C = D ∧ I ∣ D ∧ ∀ q M K, isQ (gO hc) ez all q M K → ∃ i, I = q ^ K * i ∧ ¬ q ∣ i) (fun s => 64 - s.2.2.1.toNatClampNeg) (by
    rintro ⟨x9, x10, x11, x12, x13, x14, x15, x16, x17, x18⟩ ⟨I, R, D, t, e9, e10, e11, tb, sd, eD, cp, rt, iD, hq⟩
    have e9 : x9 = nI I := e9
    have e10 : x10 = nI R := e10
    have e11 : x11 = nI t := e11
    have tb : tabC x12 x16 := tb
    have sd : SD x14 x17 x18 := sd
    subst e9 e10 e11
    have R0 : 0 < R := by
      rcases Nat.eq_zero_or_pos R with z | z
      · rw [z] at eD; omega
      · exact z
    have D0 : 0 < D := by
      rcases Nat.eq_zero_or_pos D with z | z
      · rw [z, Nat.zero_mul] at eD; omega
      · exact z
    have RC : R ≤ C := by have := Nat.le_mul_of_pos_left R D0; omega
    have DC : D ≤ C := by have := Nat.le_mul_of_pos_right D R0; omega
    have IC : I ≤ C := by have := Nat.le_of_dvd D0 iD; omega
    have t13 : t ≤ 13 := by
      refine pow13 (q := 2) (by omega) ?_
      have := Nat.le_mul_of_pos_left (2 ^ t) R0
      omega
    dsimp only [mX3_settle_b19, mi_let]
    rw [if_neg (show ¬ 32 ≤ nI t from nI_ge (b := 32) (by omega) (by omega))]
    by_cases r1 : R ≤ 1
    · right
      have R1 : R = 1 := by omega
      subst R1
      rw [if_pos (show nI 1 ≤ 1 by decide)]
      refine ⟨_, rfl, I, D, rfl, tb, sd, by rw [eD, Nat.mul_one], iD, fun q M K Q => (hq q M K Q).2 (fun z => ?_)⟩
      have := Nat.le_of_dvd (by omega) z
      have := Q.1.1
      omega
    · left
      rw [if_neg (show ¬ nI R ≤ 1 from nI_ge (a := 1) (by omega) (by omega))]
      obtain ⟨q, el, pq, qR, -⟩ := lf2 N hN R (by omega) (by omega)
      have q2 := pq.1
      have qle := Nat.le_of_dvd R0 qR
      obtain ⟨k, m, ek, nm, ep⟩ := partC hN (n := R) (q := q) R0 (by omega) q2 (by omega)
      rw [el]; simp only [Option.bind_some]; rw [ep]; simp only [Option.bind_some]
      have qk : 0 < q ^ k := Nat.pow_pos (by omega)
      have m0 : 0 < m := by
        rcases Nat.eq_zero_or_pos m with z | z
        · rw [z] at ek; omega
        · exact z
      have qkR : q ^ k ≤ R := by have := Nat.le_mul_of_pos_right (q ^ k) m0; omega
      have k1 : 1 ≤ k := by
        rcases Nat.eq_zero_or_pos k with z | z
        · rw [z, Nat.pow_zero, Nat.one_mul] at ek
          rw [ek] at qR; exact absurd qR nm
        · exact z
      have em : R / q ^ k = m := by rw [ek]; exact Nat.mul_div_cancel_left _ qk
      rw [if_neg (nI_ne0 qk (by omega)), pk_div (by omega) qk (by omega), em]
      obtain ⟨M, K, Q⟩ := isQ_ex ab al few pq (by rw [hl]; exact c0)
      obtain ⟨m', em', nm'⟩ := Q.2.2.2.2
      have nqD : ¬ q ∣ D := fun z => by
        have h1 : q ∣ Nat.gcd D R := Nat.dvd_gcd z qR
        rw [cp] at h1
        have := Nat.le_of_dvd (by omega) h1
        omega
      have kMK : k = M + K := by
        have e1 : q ^ k * (D * m) = q ^ (M + K) * m' := by
          rw [← em', hl, eD, ek]; rw [Nat.mul_left_comm]
        exact (pow_uniq pq _ _ _ _ (fun z => by rcases prm_mul pq z with y | y; exact nqD y; exact nm y) nm' e1).1
      have KM := Q.2.1
      have dn : 64 - (nI t + 1).toNatClampNeg < 64 - (nI t).toNatClampNeg := by rw [nI_1, nI_clamp (by omega), nI_clamp (by omega)]; omega
      have q2k : 2 ≤ q ^ k := Nat.le_trans (Nat.le_trans q2 (Nat.le_of_eq (Nat.pow_one q).symm)) (Nat.pow_le_pow_right (by omega) k1)
      have rt' : m * 2 ^ (t + 1) ≤ C := by
        have : m * 2 ^ (t + 1) ≤ R * 2 ^ t := by
          rw [Nat.pow_succ, ek, Nat.mul_comm (2 ^ t) 2, ← Nat.mul_assoc]
          exact Nat.mul_le_mul_right _ (by rw [Nat.mul_comm]; exact Nat.mul_le_mul_right _ q2k)
        omega
      have cp' : Nat.Coprime (D * q ^ k) m := by
        refine Nat.Coprime.mul_left ?_ (cop_pow (prm_cop pq nm) k)
        exact Nat.Coprime.coprime_dvd_right ⟨q ^ k, by rw [ek, Nat.mul_comm]⟩ cp
      have eD' : C = D * q ^ k * m := by rw [eD, ek, Nat.mul_assoc]
      have nqI : ¬ q ∣ I := (hq q M K Q).1 qR
      -- what is kept of the two numbers
      have kept : ∀ q' M' K', isQ (gO hc) ez all q' M' K' → (q' ∣ m → ¬ q' ∣ I * q ^ K) ∧ (¬ q' ∣ m → ∃ i, I * q ^ K = q' ^ K' * i ∧ ¬ q' ∣ i) := fun q' M' K' Q' => by
        have pq' := Q'.1
        by_cases qq : q' = q
        · subst qq
          obtain ⟨-, eK⟩ := isQ_un Q Q'
          subst eK
          exact ⟨fun z => absurd z nm, fun _ => ⟨I, Nat.mul_comm _ _, nqI⟩⟩
        · refine ⟨fun z y => ?_, fun z => ?_⟩
          · rcases prm_mul pq' y with w | w
            · exact (hq q' M' K' Q').1 (by rw [ek]; exact Nat.dvd_trans z (Nat.dvd_mul_left _ _)) w
            · exact prm_pow pq' pq qq K w
          · obtain ⟨i, ei, ni⟩ := (hq q' M' K' Q').2 (fun w => by
              rw [ek] at w
              rcases prm_mul pq' w with w | w
              · exact prm_pow pq' pq qq k w
              · exact z w)
            exact ⟨i * q ^ K, by rw [ei, Nat.mul_assoc], fun w => by
              rcases prm_mul pq' w with w | w
              · exact ni w
              · exact prm_pow pq' pq qq K w⟩
      have same : K = 0 → ∀ q' M' K', isQ (gO hc) ez all q' M' K' → (q' ∣ m → ¬ q' ∣ I) ∧ (¬ q' ∣ m → ∃ i, I = q' ^ K' * i ∧ ¬ q' ∣ i) := fun K0 => by
        rw [K0, Nat.pow_zero, Nat.mul_one] at kept; exact kept
      have iD' : I ∣ D * q ^ k := Nat.dvd_trans iD (Nat.dvd_mul_right _ _)
      by_cases c1 : q ^ k ≤ q
      · rw [if_pos (nI_le c1 (by omega))]
        have k2 : k ≤ 1 := (Nat.pow_le_pow_iff_right (show 1 < q by omega)).mp (by rw [Nat.pow_one]; exact c1)
        exact ⟨_, rfl, ⟨I, m, D * q ^ k, t + 1, rfl, rfl, nI_1 t, tb, sd, eD', cp', rt', iD', same (by omega)⟩, dn⟩
      · rw [if_neg (nI_ge (by omega) (by omega)), if_neg (nI_ne0 (by omega) (by omega))]
        have sp : nI P - 1 = nI (P - 1) := by rw [nI_zI, nI_zI, show (1 : Int32) = zI 1 from rfl, zI_sub]; congr 1; omega
        rw [sp, rem_nI (by omega) (by omega) (by omega)]
        by_cases c2 : (P - 1) % q = 0
        · rw [c2, if_pos (show nI 0 = 0 from rfl)]
          obtain ⟨pr1, o1, r1', b1, gl1, st1, en1, ei, t1, s1⟩ := inn Q (by omega) tb sd
          rw [kMK, ei]; simp only [Option.bind_some]
          refine ⟨_, rfl, ⟨I * q ^ K, m, D * q ^ k, t + 1, pk_mul I (q ^ K), rfl, nI_1 t, t1, s1, eD', cp', rt', ?_, kept⟩, dn⟩
          exact Nat.mul_dvd_mul iD (Nat.pow_dvd_pow q (by omega))
        · rw [if_neg (nI_ne0 (by omega) (by have := Nat.mod_lt (P - 1) (show 0 < q by omega); omega))]
          have K0 : K = 0 := by
            rcases Nat.eq_zero_or_pos K with z | z
            · exact z
            · exact absurd (Nat.mod_eq_zero_of_dvd (tors_q hc al Q z)) c2
          exact ⟨_, rfl, ⟨I, m, D * q ^ k, t + 1, rfl, rfl, nI_1 t, tb, sd, eD', cp', rt', iD', same K0⟩, dn⟩) N (1, nI C, 0, pr, od, reach, back, gl, st, ends) ⟨1, C, 1, 0, rfl, rfl, rfl, ht, hS, by rw [Nat.one_mul], by unfold Nat.Coprime; rw [Nat.gcd_one_left], by rw [Nat.pow_zero, Nat.mul_one]; exact Nat.le_refl _, Nat.dvd_refl _, fun q M K Q => by
      have pq := Q.1
      have n1 : ¬ q ∣ 1 := fun z => by have := Nat.le_of_dvd (by omega) z; have := pq.1; omega
      refine ⟨fun _ => n1, fun z => ⟨1, ?_, n1⟩⟩
      obtain ⟨m', em', nm'⟩ := Q.2.2.2.2
      have MK0 : M + K = 0 := by
        rcases Nat.eq_zero_or_pos (M + K) with y | y
        · exact y
        · exact absurd (by rw [← hl, em']; exact Nat.dvd_trans (by rw [show M + K = (M + K - 1) + 1 by omega, Nat.pow_succ]; exact Nat.dvd_mul_left _ _) (Nat.dvd_mul_right _ _)) z
      rw [show K = 0 by omega]; rfl⟩ (by show 64 - _ < N; omega)
  subst h4
  have I0 : 0 < I := Nat.pos_of_dvd_of_pos h5' c0
  have IC := Nat.le_of_dvd c0 h5'
  refine ⟨o, I, C / I, eo, h1, h2, h3, I0, by omega, rfl, by rw [hl]; exact Nat.mul_div_cancel' h5', fun q M K Q => ⟨h6 q M K Q, ?_⟩⟩
  obtain ⟨i, ei, ni⟩ := h6 q M K Q
  obtain ⟨m', em', nm'⟩ := Q.2.2.2.2
  have pq := Q.1
  have OC : I * (C / I) = C := Nat.mul_div_cancel' h5'
  have O0 : 0 < C / I := Nat.div_pos IC I0
  obtain ⟨s, o', eO, nO⟩ := part_ex pq.1 (C / I) O0
  refine ⟨o', ?_, nO⟩
  rw [hl] at em'
  have e1 : q ^ (K + s) * (i * o') = q ^ (M + K) * m' := by
    rw [← em', ← OC, eO]
    conv => rhs; rw [ei]
    rw [Nat.pow_add]
    rw [Nat.mul_assoc, Nat.mul_assoc, ← Nat.mul_assoc (q ^ s) i o', Nat.mul_comm (q ^ s) i, Nat.mul_assoc]
  have := (pow_uniq pq _ _ _ _ (fun z => by rcases prm_mul pq z with y | y; exact ni y; exact nO y) nm' e1).1
  rw [eO, show s = M by omega]
