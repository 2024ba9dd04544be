theorem shr14 (x : Int32) : (x >>> ((14 : Int32) &&& 31)).toInt = x.toInt / 16384 := by
  have h : (x >>> ((14 : Int32) &&& 31)).toBitVec = x.toBitVec.sshiftRight 14 := by
    rw [Int32.toBitVec_shiftRight]; rfl
  have h2 : (x >>> ((14 : Int32) &&& 31)).toInt = (x.toBitVec.sshiftRight 14).toInt := by
    rw [← h]; rfl
  rw [h2, BitVec.toInt_sshiftRight, Int.shiftRight_eq_div_pow]; rfl
theorem and14 (x : Int32) : (x &&& 16383).toInt = x.toInt % 16384 := by
  have h1 : (x &&& 16383).toBitVec = x.toBitVec &&& 16383#32 := rfl
  have h2 : (x &&& 16383).toBitVec.toNat = x.toBitVec.toNat % 16384 := by
    rw [h1, BitVec.toNat_and]
    exact Nat.and_two_pow_sub_one_eq_mod x.toBitVec.toNat 14
  have h3 : (x &&& 16383).toInt = ((x &&& 16383).toBitVec.toNat : Int) := by
    show (x &&& 16383).toBitVec.toInt = _
    rw [BitVec.toInt_eq_toNat_cond, if_pos (by rw [h2]; have := Nat.mod_lt x.toBitVec.toNat (show 0 < 16384 by omega); omega)]
  have h4 : x.toInt = if 2 * x.toBitVec.toNat < 2 ^ 32 then (x.toBitVec.toNat : Int) else (x.toBitVec.toNat : Int) - (2 ^ 32 : Nat) := BitVec.toInt_eq_toNat_cond x.toBitVec
  rw [h3, h2, h4]
  split <;> omega
theorem shl14 {x : Nat} (hx : x < 131072) : nI x <<< ((14 : Int32) &&& 31) = nI (16384 * x) := by
  apply Int32.toBitVec_inj.mp
  rw [Int32.toBitVec_shiftLeft]
  apply BitVec.eq_of_toNat_eq
  show ((nI x).toBitVec <<< 14).toNat = (nI (16384 * x)).toBitVec.toNat
  have t : ∀ k : Nat, (nI k).toBitVec.toNat = k % 2 ^ 32 := fun k => by
    show (BitVec.ofInt 32 (k : Int)).toNat = _
    rw [BitVec.toNat_ofInt]; omega
  rw [BitVec.toNat_shiftLeft, t, t, Nat.shiftLeft_eq]; omega
theorem xOf_nI (N : Nat) {x y : Nat} (hx : x < 10007) (hy : y < 10007) : mX5_xOf N (nI (16384 * x + y)) = some (nI x) ∧ mX5_yOf N (nI (16384 * x + y)) = some (nI y) := by
  unfold mX5_xOf mX5_yOf
  refine ⟨congrArg some (Int32.toInt_inj.mp ?_), congrArg some (Int32.toInt_inj.mp ?_)⟩
  · rw [shr14, nI_toInt (by omega), nI_toInt (by omega)]; omega
  · rw [and14, nI_toInt (by omega), nI_toInt (by omega)]; omega
theorem pair_nI (N : Nat) {x y : Nat} (hx : x < 10007) (hy : y < 10007) : mX5_pair N (nI x) (nI y) = some (nI (16384 * x + y)) := by
  unfold mX5_pair
  rw [shl14 (by omega), nI_add]
theorem oppC {F : Type} [mFld F] {P : Nat} {φ : Int → F} (hF : isGF F P φ) (N : Nat) (hP : P ≤ 10007) {u : Int32} {U : Pt F} (hu : pe P φ u U) : ∃ w, mX0_opposite N (nI P) u = some w ∧ pe P φ w (ng U) := by
  unfold mX0_opposite
  rcases hu with ⟨rfl, rfl⟩ | ⟨x, y, hx, hy, rfl, rfl⟩
  · rw [if_pos rfl]; exact ⟨-1, rfl, Or.inl ⟨rfl, rfl⟩⟩
  · rw [if_neg (pt_ne (by omega) (by omega)), (xOf_nI N (x := x) (y := y) (by omega) (by omega)).2]; simp only [Option.bind_some]
    by_cases y0 : y = 0
    · subst y0
      rw [if_pos nI_0]
      refine ⟨_, rfl, Or.inr ⟨x, 0, hx, hy, rfl, ?_⟩⟩
      show some (φ x, - φ ((0 : Nat) : Int)) = some (φ x, φ ((0 : Nat) : Int))
      rw [show φ ((0 : Nat) : Int) = 0 from hm_zero hF.1, show -(0 : F) = 0 by grind]
    · rw [if_neg (nI_ne0 (Nat.pos_of_ne_zero y0) (by omega)), (xOf_nI N (x := x) (y := y) (by omega) (by omega)).1]; simp only [Option.bind_some]
      have s2 : nI P - nI y = nI (P - y) := by
        rw [show nI P = nI (P - y) + nI y by rw [nI_add]; congr 1; omega]; exact Int32.add_sub_cancel _ _
      rw [s2, pair_nI N (by omega) (by omega)]
      refine ⟨_, rfl, Or.inr ⟨x, P - y, hx, by omega, rfl, ?_⟩⟩
      show some (φ x, - φ (y : Int)) = some (φ x, φ ((P - y : Nat) : Int))
      rw [show ((P - y : Nat) : Int) = (P : Int) - y by omega, hm_sub hF.1, (hF.2.1 P).mpr (Int.dvd_refl _), show - φ (y : Int) = 0 - φ (y : Int) by grind]
theorem invC {F : Type} [mFld F] {P : Nat} {φ : Int → F} (hF : isGF F P φ) (hp : isp P) (h5 : 5 ≤ P) (hP : P ≤ 10007) (N : Nat) (hN : 20000 ≤ N) {j : Nat} (hj : j < P) (j0 : φ (j : Int) ≠ 0) : ∃ i, i < P ∧ mX4_inverted N (nI j) (nI P) = some (nI i) ∧ φ (i : Int) = (φ (j : Int))⁻¹ := by
  have p0 : 0 < j := Nat.pos_of_ne_zero (fun z => j0 (by rw [z]; exact hm_zero hF.1))
  have c : Nat.Coprime j P := Nat.Coprime.symm (pr_cop hp (by omega) (fun d => by have := Nat.le_of_dvd p0 d; omega))
  obtain ⟨r, hr, e, d⟩ := inv_spec N hN (n := P) (v := j) (by omega) p0 hj c
  refine ⟨r, hr, e, ?_⟩
  have e2 := (gf_eq hF _ _).mpr d
  rw [hm_mul hF.1, hm_one hF.1] at e2
  exact Lean.Grind.Field.eq_inv_of_mul_eq_one (by rw [← e2]; grind)
theorem gf_dvd {F : Type} [mFld F] {P : Nat} {φ : Int → F} (hF : isGF F P φ) {z r : Int} (d : (P : Int) ∣ z - r) : φ r = φ z := ((gf_eq hF z r).mpr d).symm
theorem sumC {F : Type} [mFld F] {P : Nat} {φ : Int → F} (hF : isGF F P φ) (hp : isp P) (N : Nat) (hN : 20000 ≤ N) (h5 : 5 ≤ P) (hP : P ≤ 10007) {A B : Nat} (hA : A < P) {u v : Int32} {U V : Pt F} (hu : pe P φ u U) (hv : pe P φ v V) (oU : onE (φ A) (φ B) U) (oV : onE (φ A) (φ B) V) :
    ∃ w, mX0_sum N (nI P) (nI A) u v = some w ∧ pe P φ w (ad (φ A) U V) := by
  have h1 : 1 ≤ P := by omega
  unfold mX0_sum
  rcases hu with ⟨rfl, rfl⟩ | ⟨x1, y1, hx1, hy1, rfl, rfl⟩
  · rw [if_pos rfl]; exact ⟨v, rfl, hv⟩
  · rw [if_neg (pt_ne (by omega) (by omega))]
    rcases hv with ⟨rfl, rfl⟩ | ⟨x2, y2, hx2, hy2, rfl, rfl⟩
    · rw [if_pos rfl]
      exact ⟨_, rfl, Or.inr ⟨x1, y1, hx1, hy1, rfl, rfl⟩⟩
    · rw [if_neg (pt_ne (by omega) (by omega)), (xOf_nI N (x := x1) (y := y1) (by omega) (by omega)).1]; simp only [Option.bind_some]
      rw [(xOf_nI N (x := x1) (y := y1) (by omega) (by omega)).2]; simp only [Option.bind_some]
      rw [(xOf_nI N (x := x2) (y := y2) (by omega) (by omega)).1]; simp only [Option.bind_some]
      rw [(xOf_nI N (x := x2) (y := y2) (by omega) (by omega)).2]; simp only [Option.bind_some]
      dsimp only [mi_let]
      have np : ¬ nI P = 0 := nz_nI h1 hP
      -- the end, once numerator and inverse are there
      have fin : ∀ n i : Nat, n < P → i < P → φ (n : Int) * φ (i : Int) = sl (φ A) (φ x1, φ y1) (φ x2, φ y2) → ¬ ((φ x1, φ y1).1 = (φ x2, φ y2).1 ∧ (φ x1, φ y1).2 + (φ x2, φ y2).2 = 0) →
          ∃ w, (if nI P = 0 then none else if nI P = 0 then none else if nI P = 0 then none else (mX5_pair N (mi_rem ((((mi_rem (nI n * nI i) (nI P) * mi_rem (nI n * nI i) (nI P)) + (2 * nI P)) - nI x1) - nI x2) (nI P)) (mi_rem (((mi_rem (nI n * nI i) (nI P) * ((nI x1 - mi_rem ((((mi_rem (nI n * nI i) (nI P) * mi_rem (nI n * nI i) (nI P)) + (2 * nI P)) - nI x1) - nI x2) (nI P)) + nI P)) + nI P) - nI y1) (nI P))).bind (fun r20 => some r20)) = some w ∧ pe P φ w (ad (φ A) (some (φ x1, φ y1)) (some (φ x2, φ y2))) := fun n i hn hi es ng => by
        rw [if_neg np, if_neg np, if_neg np]
        have b1 := mul_lt hn hi hP
        obtain ⟨s, e1, hs, d1⟩ := rem_pos (z := ((n * i : Nat) : Int)) h1 (by omega) (by omega) (by omega)
        have e1' : mi_rem (nI n * nI i) (nI P) = nI s := by rw [← e1, nI_zI, nI_zI, zI_mul, Int.natCast_mul]
        rw [e1']
        have gs : φ (s : Int) = sl (φ A) (φ x1, φ y1) (φ x2, φ y2) := by rw [gf_dvd hF d1, Int.natCast_mul, hm_mul hF.1, es]
        have b2 := mul_lt hs hs hP
        obtain ⟨x3, e2, hx3, d2⟩ := rem_pos (z := ((s * s : Nat) : Int) + 2 * P - x1 - x2) h1 (by omega) (by omega) (by omega)
        have e2' : mi_rem ((((nI s * nI s) + (2 * nI P)) - nI x1) - nI x2) (nI P) = nI x3 := by
          rw [← e2]; congr 1
          rw [nI_zI, nI_zI, nI_zI, nI_zI, show (2 : Int32) = zI 2 from rfl, zI_mul, zI_mul, zI_add, zI_sub, zI_sub, Int.natCast_mul]
        rw [e2']
        have g3 : φ (x3 : Int) = φ (s : Int) * φ (s : Int) - φ x1 - φ x2 := by
          rw [gf_dvd hF d2, hm_sub hF.1, hm_sub hF.1, hm_add hF.1, hm_mul hF.1 2, (hF.2.1 P).mpr (Int.dvd_refl _), Int.natCast_mul, hm_mul hF.1]; grind
        have b3 : s * (x1 + P - x3) ≤ 10006 * 20013 := Nat.mul_le_mul (by omega) (by omega)
        obtain ⟨y3, e3, hy3, d3⟩ := rem_pos (z := ((s * (x1 + P - x3) : Nat) : Int) + P - y1) h1 (by omega) (by omega) (by omega)
        have e3' : mi_rem (((nI s * ((nI x1 - nI x3) + nI P)) + nI P) - nI y1) (nI P) = nI y3 := by
          rw [← e3]; congr 1
          rw [nI_zI, nI_zI, nI_zI, nI_zI, nI_zI, zI_sub, zI_add, zI_mul, zI_add, zI_sub, Int.natCast_mul, show ((x1 + P - x3 : Nat) : Int) = (x1 : Int) - x3 + P by omega]
        rw [e3', pair_nI N (by omega) (by omega)]
        refine ⟨_, rfl, Or.inr ⟨x3, y3, hx3, hy3, rfl, ?_⟩⟩
        rw [ad_gen ng]
        unfold p3
        have g4 : φ (y3 : Int) = φ (s : Int) * (φ x1 - φ x3) - φ y1 := by
          rw [gf_dvd hF d3, hm_sub hF.1, hm_add hF.1, (hF.2.1 P).mpr (Int.dvd_refl _), Int.natCast_mul, hm_mul hF.1, show ((x1 + P - x3 : Nat) : Int) = (x1 : Int) - x3 + P by omega, hm_add hF.1, hm_sub hF.1, (hF.2.1 P).mpr (Int.dvd_refl _)]; grind
        rw [← gs, g4, g3]
      have s0 : nI x2 - nI x1 = zI ((x2 : Int) - x1) := by rw [nI_zI, nI_zI, zI_sub]
      by_cases c : x1 = x2
      · subst c
        rw [if_pos (show nI x1 - nI x1 = 0 by rw [s0]; show zI _ = zI 0; congr 1; omega), if_neg np, nI_add, rem_nI (by omega) (by omega) (by omega)]
        by_cases z : (y1 + y2) % P = 0
        · rw [z, if_pos nI_0]
          exact ⟨-1, rfl, Or.inl ⟨rfl, ad_inv rfl ((sum0 hF).mp z)⟩⟩
        · rw [if_neg (nI_ne0 (Nat.pos_of_ne_zero z) (by have := Nat.mod_lt (y1 + y2) h1; omega)), if_neg np, if_neg np]
          have ng : ¬ ((φ x1, φ y1).1 = (φ x1, φ y2).1 ∧ (φ x1, φ y1).2 + (φ x1, φ y2).2 = 0) := fun k => z ((sum0 hF).mpr k.2)
          obtain ⟨-, hc⟩ := sl_line oU oV ng
          have hc' := hc.resolve_left (fun k => k rfl)
          have b1 := mul_lt hx1 hx1 hP
          obtain ⟨d, e3, hd, d3⟩ := rem_pos (z := 2 * (y1 : Int)) h1 (by omega) (by omega) (by omega)
          have e3' : mi_rem (2 * nI y1) (nI P) = nI d := by rw [← e3, nI_zI y1, show (2 : Int32) = zI 2 from rfl, zI_mul]
          have g3 : φ (d : Int) = 2 * φ y1 := by rw [gf_dvd hF d3, hm_mul hF.1, show φ (2 : Int) = OfNat.ofNat (α := F) 2 from gf_num hF 2]
          have d0 : φ (d : Int) ≠ 0 := by rw [g3]; exact hc'.2.2.1
          obtain ⟨i, hi, e4, g4⟩ := invC hF hp h5 hP N hN hd d0
          obtain ⟨n, e2, hn, d2⟩ := rem_pos (z := 3 * ((x1 * x1 : Nat) : Int) + A) h1 (by omega) (by omega) (by omega)
          have e2' : mi_rem (((3 * nI x1) * nI x1) + nI A) (nI P) = nI n := by
            rw [← e2]; congr 1
            rw [nI_zI, nI_zI, show (3 : Int32) = zI 3 from rfl, zI_mul, zI_mul, zI_add, Int.natCast_mul]; congr 1; grind
          have g2 : φ (n : Int) = 3 * φ x1 * φ x1 + φ A := by
            rw [gf_dvd hF d2, hm_add hF.1, hm_mul hF.1, Int.natCast_mul, hm_mul hF.1, show φ (3 : Int) = OfNat.ofNat (α := F) 3 from gf_num hF 3]
            show 3 * (φ x1 * φ x1) + φ A = 3 * φ x1 * φ x1 + φ A
            grind
          rw [e3', e2', if_pos (nI_pos' (by omega)), e4]; simp only [Option.bind_some]
          refine fin n i hn hi ?_ ng
          rw [g2, g4, g3]
          unfold sl
          rw [if_pos rfl]
      · have ne : φ (x1 : Int) ≠ φ (x2 : Int) := fun e => c (gf_nat hF hx1 hx2 e)
        have ng : ¬ ((φ x1, φ y1).1 = (φ x2, φ y2).1 ∧ (φ x1, φ y1).2 + (φ x2, φ y2).2 = 0) := fun k => ne k.1
        rw [s0, if_neg (show ¬ zI ((x2 : Int) - x1) = 0 from fun e => by
          have := (zI_eq (a := (x2 : Int) - x1) (b := 0) (by omega) (by omega) (by omega) (by omega)).mp e; omega), if_neg np]
        obtain ⟨n, e2, hn, d2⟩ := rem_pos (z := (y2 : Int) - y1 + P) h1 (by omega) (by omega) (by omega)
        have e2' : mi_rem ((nI y2 - nI y1) + nI P) (nI P) = nI n := by
          rw [← e2]; congr 1
          rw [nI_zI, nI_zI, nI_zI, zI_sub, zI_add]
        have g2 : φ (n : Int) = φ y2 - φ y1 := by rw [gf_dvd hF d2, hm_add hF.1, hm_sub hF.1, (hF.2.1 P).mpr (Int.dvd_refl _)]; grind
        rw [e2']
        have fin2 : ∀ d : Nat, d < P → φ (d : Int) = φ x2 - φ x1 → ∃ i, i < P ∧ mX4_inverted N (nI d) (nI P) = some (nI i) ∧ φ (n : Int) * φ (i : Int) = sl (φ A) (φ x1, φ y1) (φ x2, φ y2) := fun d hd gd => by
          have d0 : φ (d : Int) ≠ 0 := fun z => ne (by rw [gd] at z; grind)
          obtain ⟨i, hi, e4, g4⟩ := invC hF hp h5 hP N hN hd d0
          refine ⟨i, hi, e4, ?_⟩
          rw [g2, g4, gd]
          unfold sl
          rw [if_neg ne]
        by_cases lt : x1 ≤ x2
        · rw [if_pos (show (0 : Int32) ≤ zI ((x2 : Int) - x1) from (zI_le (a := 0) (b := (x2 : Int) - x1) (by omega) (by omega) (by omega) (by omega)).mpr (by omega))]
          obtain ⟨i, hi, e4, es⟩ := fin2 (x2 - x1) (by omega) (by rw [show ((x2 - x1 : Nat) : Int) = (x2 : Int) - x1 by omega, hm_sub hF.1])
          rw [show zI ((x2 : Int) - x1) = nI (x2 - x1) by rw [nI_zI]; congr 1; omega, e4]; simp only [Option.bind_some]
          exact fin n i hn hi es ng
        · rw [if_neg (show ¬ (0 : Int32) ≤ zI ((x2 : Int) - x1) from fun z => by have := (zI_le (a := 0) (b := (x2 : Int) - x1) (by omega) (by omega) (by omega) (by omega)).mp z; omega)]
          obtain ⟨i, hi, e4, es⟩ := fin2 (x2 + P - x1) (by omega) (by rw [show ((x2 + P - x1 : Nat) : Int) = (x2 : Int) - x1 + P by omega, hm_add hF.1, hm_sub hF.1, (hF.2.1 P).mpr (Int.dvd_refl _)]; grind)
          rw [show zI ((x2 : Int) - x1) + nI P = nI (x2 + P - x1) by rw [nI_zI, nI_zI, zI_add]; congr 1; omega, e4]; simp only [Option.bind_some]
          exact fin n i hn hi es ng
