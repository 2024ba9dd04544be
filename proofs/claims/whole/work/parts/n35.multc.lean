/-! a long as 64 bits -/
def uN (x : Int64) : Nat := x.toUInt64.toNat
theorem uN_bv (x : Int64) : uN x = x.toBitVec.toNat := rfl
theorem uN_0 {x : Int64} : lg_cmp x 0 = 0 ↔ uN x = 0 := by
  rw [lg_cmp_eq0, uN_bv]
  constructor
  · intro e; rw [e]; rfl
  · intro e
    apply Int64.toBitVec_inj.mp
    apply BitVec.eq_of_toNat_eq
    rw [e]; rfl
theorem uN_odd (x : Int64) : lg_cmp (x &&& 1) 1 = 0 ↔ uN x % 2 = 1 := by
  rw [lg_cmp_eq0, uN_bv]
  have h1 : (x &&& 1).toBitVec.toNat = x.toBitVec.toNat % 2 := by
    have : (x &&& 1).toBitVec = x.toBitVec &&& 1#64 := rfl
    rw [this, BitVec.toNat_and]
    exact Nat.and_two_pow_sub_one_eq_mod x.toBitVec.toNat 1
  constructor
  · intro e; rw [← h1, e]; rfl
  · intro e
    apply Int64.toBitVec_inj.mp
    apply BitVec.eq_of_toNat_eq
    rw [h1, e]; rfl
theorem uN_half (x : Int64) : uN ((x.toUInt64 >>> ((1 : Int32).toInt64.toUInt64 &&& Int64.toUInt64 63)).toInt64) = uN x / 2 := by
  unfold uN
  have : (x.toUInt64 >>> ((1 : Int32).toInt64.toUInt64 &&& Int64.toUInt64 63)).toInt64.toUInt64 = x.toUInt64 >>> ((1 : Int32).toInt64.toUInt64 &&& Int64.toUInt64 63) := rfl
  rw [this, UInt64.toNat_shiftRight]
  have e : ((1 : Int32).toInt64.toUInt64 &&& Int64.toUInt64 63).toNat % 64 = 1 := by decide
  rw [e, Nat.shiftRight_eq_div_pow]
theorem uN_pos {x : Int64} (h : 0 ≤ x.toInt) : uN x = x.toInt.toNat := by
  have h4 : x.toInt = if 2 * x.toBitVec.toNat < 2 ^ 64 then (x.toBitVec.toNat : Int) else (x.toBitVec.toNat : Int) - (2 ^ 64 : Nat) := BitVec.toInt_eq_toNat_cond x.toBitVec
  have := x.toBitVec.isLt
  rw [uN_bv]
  split at h4 <;> omega
theorem uN_neg {x : Int64} (h : x.toInt < 0) : uN (-x) = x.toInt.natAbs := by
  have h4 : x.toInt = if 2 * x.toBitVec.toNat < 2 ^ 64 then (x.toBitVec.toNat : Int) else (x.toBitVec.toNat : Int) - (2 ^ 64 : Nat) := BitVec.toInt_eq_toNat_cond x.toBitVec
  have lt := x.toBitVec.isLt
  have e : uN (-x) = (2 ^ 64 - x.toBitVec.toNat) % 2 ^ 64 := by
    have : (-x).toBitVec = - x.toBitVec := rfl
    rw [uN_bv, this, BitVec.toNat_neg]
  rw [e]
  split at h4 <;> omega
theorem uN_lt (x : Int64) : uN x < 2 ^ 64 := x.toBitVec.isLt
theorem sumCe {F : Type} [mFld F] {P A B : Nat} {φ : Int → F} (hc : CX F P A B φ) (N : Nat) (hN : 20000 ≤ N) {u v : Int32} {U V : EP (φ A) (φ B)} (hu : pe P φ u U.1) (hv : pe P φ v V.1) : ∃ w, mX0_sum N (nI P) (nI A) u v = some w ∧ pe P φ w (gO hc U V).1 :=
  sumC hc.1 hc.2.1 N hN hc.2.2.1 hc.2.2.2.1 hc.2.2.2.2.1 hu hv U.2 V.2
theorem oppCe {F : Type} [mFld F] {P A B : Nat} {φ : Int → F} (hc : CX F P A B φ) (N : Nat) {u : Int32} {U : EP (φ A) (φ B)} (hu : pe P φ u U.1) : ∃ w, mX0_opposite N (nI P) u = some w ∧ pe P φ w (en U).1 := oppC hc.1 N hc.2.2.2.1 hu
theorem multC37 {F : Type} [mFld F] {P A B : Nat} {φ : Int → F} (hc : CX F P A B φ) {N : Nat} (hN : 2 ^ 64 ≤ N) {u : Int32} {U : EP (φ A) (φ B)} (hu : pe P φ u U.1) (k : Int64) : ∃ o, mi_run (mX0_multiple_b37 N (nI P) (nI A)) N (-1, u, k, 0) = some o ∧ pe P φ o.1 (gm (gO hc) ez (uN k) U).1 := by
  have ab := gO_ab hc
  have hN' : 20000 ≤ N := by omega
  refine mi_run_ok (mX0_multiple_b37 N (nI P) (nI A)) (fun s => ∃ (al ba : EP (φ A) (φ B)) (t : Nat), pe P φ s.1 al.1 ∧ pe P φ s.2.1 ba.1 ∧ gO hc al (gm (gO hc) ez (uN s.2.2.1) ba) = gm (gO hc) ez (uN k) U ∧ s.2.2.2 = nI t ∧ t ≤ 64 ∧ uN s.2.2.1 < 2 ^ (64 - t)) (fun o => pe P φ o.1 (gm (gO hc) ez (uN k) U).1) (fun s => 64 - s.2.2.2.toNatClampNeg) ?_ N (-1, u, k, 0) ⟨ez, U, 0, Or.inl ⟨rfl, rfl⟩, hu, ab_0l ab _, rfl, by omega, uN_lt k⟩ (by
    show 64 - (0 : Int32).toNatClampNeg < N
    omega)
  rintro ⟨x5, x6, x7, x8⟩ ⟨al, ba, t, h1, h2, h3, h4, h5, h6⟩
  have h3' : gO hc al (gm (gO hc) ez (uN x7) ba) = gm (gO hc) ez (uN k) U := h3
  have h4' : x8 = nI t := h4
  have h6' : uN x7 < 2 ^ (64 - t) := h6
  subst h4'
  dsimp only [mX0_multiple_b37, mi_let]
  have zero : uN x7 = 0 → pe P φ x5 (gm (gO hc) ez (uN k) U).1 := fun z => by
    rw [← h3', z]
    show pe P φ x5 (gO hc al ez).1
    rw [ab.2.2.1]; exact h1
  by_cases c0 : (64 : Int32) ≤ nI t
  · right
    rw [if_pos c0]
    have : 64 ≤ t := (nI_leI (a := 64) (by omega) (by omega)).mp c0
    refine ⟨_, rfl, zero ?_⟩
    rw [show 64 - t = 0 by omega] at h6'
    omega
  · rw [if_neg c0]
    have tl : t < 64 := Nat.lt_of_not_le (fun z => c0 (nI_le (a := 64) z (by omega)))
    by_cases c : lg_cmp x7 0 = 0
    · right
      rw [if_pos c]
      exact ⟨_, rfl, zero (uN_0.mp c)⟩
    · rw [if_neg c]
      by_cases c1 : x6 = -1
      · right
        rw [if_pos c1]
        refine ⟨_, rfl, ?_⟩
        have b0 : ba = ez := Subtype.ext ((pe_none hc.2.2.2.1 h2).mp c1)
        rw [← h3', b0, gm_e ab, ab.2.2.1]; exact h1
      · left
        rw [if_neg c1]
        obtain ⟨w2, e2, q2⟩ := sumCe hc N hN' (show pe P φ x6 ba.1 from h2) (show pe P φ x6 ba.1 from h2)
        have st := mult_ok ab al ba (uN x7)
        have hb := uN_half x7
        generalize hx : (x7.toUInt64 >>> ((1 : Int32).toInt64.toUInt64 &&& Int64.toUInt64 63)).toInt64 = y at *
        have hy : uN y < 2 ^ (64 - (t + 1)) := by
          rw [hb]
          have : 2 ^ (64 - t) = 2 ^ (64 - (t + 1)) * 2 := by rw [← Nat.pow_succ]; congr 1; omega
          omega
        have meas : 64 - (nI t + 1).toNatClampNeg < 64 - (nI t).toNatClampNeg := by rw [nI_1, nI_clamp (by omega), nI_clamp (by omega)]; omega
        by_cases d : lg_cmp (x7 &&& 1) 1 = 0
        · obtain ⟨w1, e1, q1⟩ := sumCe hc N hN' (show pe P φ x5 al.1 from h1) (show pe P φ x6 ba.1 from h2)
          rw [if_pos d, e1]; simp only [Option.bind_some]
          have o1 := (uN_odd x7).mp d
          rw [if_neg (show ¬ uN x7 % 2 = 0 by omega)] at st
          by_cases y0 : lg_cmp y 0 = 0
          · rw [if_pos y0]
            refine ⟨_, rfl, ⟨gO hc al ba, ba, t + 1, q1, h2, ?_, (nI_1 t), by omega, hy⟩, meas⟩
            show gO hc (gO hc al ba) (gm (gO hc) ez (uN y) ba) = _
            have z := uN_0.mp y0
            rw [← hb, z] at st
            rw [z, ← h3', st]; rfl
          · rw [if_neg y0, e2]; simp only [Option.bind_some]
            refine ⟨_, rfl, ⟨gO hc al ba, gO hc ba ba, t + 1, q1, q2, ?_, (nI_1 t), by omega, hy⟩, meas⟩
            show gO hc (gO hc al ba) (gm (gO hc) ez (uN y) (gO hc ba ba)) = _
            rw [← h3', st, hb]
        · rw [if_neg d]
          have o1 : uN x7 % 2 = 0 := by
            have : ¬ uN x7 % 2 = 1 := fun z => d ((uN_odd x7).mpr z)
            omega
          rw [if_pos o1] at st
          by_cases y0 : lg_cmp y 0 = 0
          · rw [if_pos y0]
            refine ⟨_, rfl, ⟨al, ba, t + 1, h1, h2, ?_, (nI_1 t), by omega, hy⟩, meas⟩
            show gO hc al (gm (gO hc) ez (uN y) ba) = _
            have z := uN_0.mp y0
            rw [← hb, z] at st
            rw [z, ← h3', st]; rfl
          · rw [if_neg y0, e2]; simp only [Option.bind_some]
            refine ⟨_, rfl, ⟨al, gO hc ba ba, t + 1, h1, q2, ?_, (nI_1 t), by omega, hy⟩, meas⟩
            show gO hc al (gm (gO hc) ez (uN y) (gO hc ba ba)) = _
            rw [← h3', st, hb]
theorem multC {F : Type} [mFld F] {P A B : Nat} {φ : Int → F} (hc : CX F P A B φ) {N : Nat} (hN : 2 ^ 64 ≤ N) {u : Int32} {U : EP (φ A) (φ B)} (hu : pe P φ u U.1) (k : Int64) : ∃ w, mX0_multiple N (nI P) (nI A) u k = some w ∧ pe P φ w (gz (gO hc) ez en k.toInt U).1 := by
  unfold mX0_multiple gz
  dsimp only [mi_let]
  by_cases c : 0 ≤ lg_cmp k 0
  · have k0 : 0 ≤ k.toInt := by
      have := (lg_cmp_ge k 0).mp c
      have := Int64.le_iff_toInt_le.mp this
      rwa [l0_toInt] at this
    obtain ⟨o, ho, q⟩ := multC37 hc hN hu k
    rw [if_pos c, if_pos c, ho, if_pos k0]
    obtain ⟨o1, o2, o3, o4⟩ := o
    exact ⟨o1, rfl, by rw [← uN_pos k0]; exact q⟩
  · have k0 : ¬ 0 ≤ k.toInt := fun z => c ((lg_cmp_ge k 0).mpr (Int64.le_iff_toInt_le.mpr (by rw [l0_toInt]; exact z)))
    obtain ⟨w, ew, qw⟩ := oppCe hc N hu
    obtain ⟨o, ho, q⟩ := multC37 hc hN qw (-k)
    rw [if_neg c, ew]; simp only [Option.bind_some]
    rw [if_neg c, ho, if_neg k0]
    obtain ⟨o1, o2, o3, o4⟩ := o
    exact ⟨o1, rfl, by rw [show (-k.toInt).toNat = k.toInt.natAbs by omega, ← uN_neg (by omega)]; exact q⟩
