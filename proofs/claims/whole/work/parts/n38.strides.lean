/-! floorMod -/
theorem xor_sign (x y : Int32) (hy : 0 ≤ y.toInt) : 0 ≤ x ^^^ y ↔ 0 ≤ x.toInt := by
  have m : ∀ z : Int32, 0 ≤ z.toInt ↔ z.toBitVec.msb = false := fun z => by
    have := BitVec.msb_eq_toInt (x := z.toBitVec)
    rw [this]
    show 0 ≤ z.toBitVec.toInt ↔ _
    by_cases c : z.toBitVec.toInt < 0
    · simp [c]
    · simp [c]
  rw [Int32.le_iff_toInt_le, show (0 : Int32).toInt = 0 by decide, m, m]
  have e : (x ^^^ y).toBitVec = x.toBitVec ^^^ y.toBitVec := rfl
  rw [e, BitVec.msb_xor, (m y).mp hy]
  simp
theorem fmod_spec (N : Nat) {z : Int} {n : Nat} (n0 : 0 < n) (hn : n < 2 ^ 31) (z1 : -2147483648 ≤ z) (z2 : z < 2147483648) : mJ9_floorMod_7cf53 N (zI z) (nI n) = some (nI (z % (n : Int)).toNat) := by
  unfold mJ9_floorMod_7cf53
  dsimp only [mi_let]
  rw [if_neg (nI_ne0 n0 hn)]
  have h := rem32_toInt (zI z) (nI n) (by rw [nI_toInt hn]; omega)
  rw [zI_toInt z1 z2, nI_toInt hn] at h
  have hr : mi_rem (zI z) (nI n) = zI (z.tmod n) := by rw [zI_of (mi_rem _ _), h]
  rw [hr]
  have hb := tm_bd (a := z) (b := (n : Int)) (by omega)
  have e1 := Int.emod_nonneg z (show (n : Int) ≠ 0 by omega)
  have e2 := Int.emod_lt_of_pos z (show (0 : Int) < n by omega)
  by_cases c : 0 ≤ z
  · rw [if_pos ((xor_sign _ _ (by rw [nI_toInt hn]; omega)).mpr (by rw [zI_toInt z1 z2]; exact c)), (hb.1 c).2.2]
    rw [nI_zI, Int.toNat_of_nonneg e1]
  · rw [if_neg (fun w => c (by have := (xor_sign _ _ (by rw [nI_toInt hn]; omega)).mp w; rwa [zI_toInt z1 z2] at this))]
    have bd := hb.2 (by omega)
    have te : z.tmod n = z % n ∨ z.tmod n = z % n - n := by
      rw [Int.tmod_eq_emod]
      split
      · left; omega
      · right; rw [Int.natAbs_natCast]
    by_cases t0 : z.tmod n = 0
    · have : z % n = 0 := by omega
      rw [t0, if_pos (show zI 0 = 0 from rfl), this]; rfl
    · rw [if_neg (show ¬ zI (z.tmod n) = 0 from fun w => t0 ((zI_eq (b := 0) (by omega) (by omega) (by omega) (by omega)).mp w)), nI_zI, nI_zI, zI_add]
      congr 2
      rw [Int.toNat_of_nonneg e1]; omega
/-! the short steps -/
def SD (reach : Int32) (st ends : Nat → Int32) : Prop := ∃ r : Nat, reach = nI r ∧ r ≤ 127 ∧ (∀ i, 1 ≤ i → i ≤ r → ∃ x y, x < 10007 ∧ y < 10007 ∧ ends i = nI (16384 * x + y)) ∧ ∀ x, x < 10007 → st x ≠ 0 → ∃ i y, 1 ≤ i ∧ i ≤ r ∧ y < 10007 ∧ ends i = nI (16384 * x + y)
theorem endOf_nI (N : Nat) (ends : Nat → Int32) {i : Nat} (h1 : 1 ≤ i) (hi : i ≤ 127) : mX2_endOf N ends (nI i) = some (ends i) := by
  unfold mX2_endOf
  rw [if_neg (nI_nle (by omega) (by omega)), if_neg (show ¬ (128 : Int32) ≤ nI i from fun z => by have := (nI_leI (a := 128) (b := i) (by omega) (by omega)).mp z; omega), if_neg (ix_nI (by omega) (by omega))]
  dsimp only [mi_let]
  rw [nI_clamp (by omega)]
theorem endOf_0 (N : Nat) (ends : Nat → Int32) : mX2_endOf N ends (nI 0) = some (-1) := by
  unfold mX2_endOf
  rw [if_pos (show nI 0 ≤ 0 by decide)]
theorem note_nI (N : Nat) (st : Nat → Int32) {x y : Nat} (hx : x < 10007) (hy : y < 10007) (v : Int32) : mX2_note N st (nI (16384 * x + y)) v = some (upd st x v) := by
  unfold mX2_note
  rw [(xOf_nI N hx hy).1]; simp only [Option.bind_some]
  rw [if_neg (nI_pos (by omega)), if_neg (show ¬ (10007 : Int32) ≤ nI x from fun z => by have := (nI_leI (a := 10007) (b := x) (by omega) (by omega)).mp z; omega), if_neg (ix_nI (by omega) (by omega))]
  dsimp only [mi_let]
  rw [nI_clamp (by omega)]
theorem noted_nI (N : Nat) (st : Nat → Int32) {x y : Nat} (hx : x < 10007) (hy : y < 10007) : mX2_noted N st (nI (16384 * x + y)) = some (st x) := by
  unfold mX2_noted
  rw [(xOf_nI N hx hy).1]; simp only [Option.bind_some]
  rw [if_neg (nI_pos (by omega)), if_neg (show ¬ (10007 : Int32) ≤ nI x from fun z => by have := (nI_leI (a := 10007) (b := x) (by omega) (by omega)).mp z; omega), if_neg (ix_nI (by omega) (by omega))]
  dsimp only [mi_let]
  rw [nI_clamp (by omega)]
theorem lay3 (N : Nat) (hN : 20000 ≤ N) {reach : Int32} {st ends : Nat → Int32} (h : SD reach st ends) : ∃ o, mi_run (mX2_lay_b3 N reach ends) N (1, st) = some o ∧ ∀ x, x < 10007 → o.2 x = 0 := by
  obtain ⟨r, rfl, hr, he, hs⟩ := h
  refine mi_run_ok (mX2_lay_b3 N (nI r) ends) (fun s => ∃ k, s.1 = nI k ∧ 1 ≤ k ∧ k ≤ r + 1 ∧ ∀ x, x < 10007 → s.2 x ≠ 0 → ∃ i y, k ≤ i ∧ i ≤ r ∧ y < 10007 ∧ ends i = nI (16384 * x + y)) (fun o => ∀ x, x < 10007 → o.2 x = 0) (fun s => 200 - s.1.toNatClampNeg) ?_ N (1, st) ⟨1, rfl, by omega, by omega, hs⟩ (by show 200 - (1 : Int32).toNatClampNeg < N; omega)
  rintro ⟨x1, x2⟩ ⟨k, e, k1, kr, hk⟩
  have e' : x1 = nI k := e
  subst e'
  dsimp only [mX2_lay_b3, mi_let]
  by_cases c : r < k
  · right
    rw [if_pos (nI_lt c (by omega))]
    refine ⟨_, rfl, fun x hx => Classical.byContradiction (fun ne => ?_)⟩
    obtain ⟨i, y, h1, h2, -, -⟩ := hk x hx ne
    omega
  · left
    rw [if_neg (nI_nlt (by omega) (by omega)), endOf_nI N ends k1 (by omega)]; simp only [Option.bind_some]
    obtain ⟨x, y, hx, hy, ee⟩ := he k k1 (by omega)
    rw [ee, note_nI N x2 hx hy 0]; simp only [Option.bind_some]
    refine ⟨_, rfl, ⟨k + 1, nI_1 k, by omega, by omega, fun x' hx' ne => ?_⟩, ?_⟩
    · by_cases q : x' = x
      · exact absurd (show upd x2 x 0 x' = 0 by unfold upd; rw [if_pos q]) ne
      · have ne' : x2 x' ≠ 0 := by
          have : upd x2 x 0 x' = x2 x' := by unfold upd; rw [if_neg q]
          rw [← this]; exact ne
        obtain ⟨i, y', h1, h2, h3, h4⟩ := hk x' hx' ne'
        refine ⟨i, y', ?_, h2, h3, h4⟩
        by_cases ik : i = k
        · rw [ik, ee] at h4
          have := (nI_eq (by omega) (by omega)).mp h4
          omega
        · omega
    · show 200 - (nI k + 1).toNatClampNeg < 200 - (nI k).toNatClampNeg
      rw [nI_1, nI_clamp (by omega), nI_clamp (by omega)]; omega
/-- laid: the steps of U, r of them -/
def LD {F : Type} [mFld F] {P A B : Nat} {φ : Int → F} (hc : CX F P A B φ) (U : EP (φ A) (φ B)) (r : Nat) (st ends : Nat → Int32) : Prop :=
  r ≤ 127 ∧ (∀ i, 1 ≤ i → i ≤ r → pe P φ (ends i) (gm (gO hc) ez i U).1 ∧ gm (gO hc) ez i U ≠ ez) ∧ ∀ x, x < 10007 → (st x = 0 ∧ ∀ i y, 1 ≤ i → i ≤ r → y < 10007 → ends i ≠ nI (16384 * x + y)) ∨ ∃ i y, st x = nI i ∧ 1 ≤ i ∧ i ≤ r ∧ y < 10007 ∧ ends i = nI (16384 * x + y)
theorem LD.sd {F : Type} [mFld F] {P A B : Nat} {φ : Int → F} {hc : CX F P A B φ} {U : EP (φ A) (φ B)} {r : Nat} {st ends : Nat → Int32} (h : LD hc U r st ends) : SD (nI r) st ends := by
  have hP := hc.2.2.2.1
  refine ⟨r, rfl, h.1, fun i h1 hi => ?_, fun x hx ne => ?_⟩
  · obtain ⟨q1, q2⟩ := h.2.1 i h1 hi
    rcases q1 with ⟨-, e⟩ | ⟨x, y, hx, hy, e, -⟩
    · exact absurd (Subtype.ext e) q2
    · exact ⟨x, y, by omega, by omega, e⟩
  · rcases h.2.2 x hx with ⟨z, -⟩ | ⟨i, y, -, h1, h2, h3, h4⟩
    · exact absurd z ne
    · exact ⟨i, y, h1, h2, h3, h4⟩
theorem LD_step {F : Type} [mFld F] {P A B : Nat} {φ : Int → F} {hc : CX F P A B φ} {U : EP (φ A) (φ B)} {r : Nat} {st ends : Nat → Int32} (h : LD hc U r st ends) (rl : r + 1 < 128) {x y : Nat} (hx : x < P) (hy : y < P) {v : Int32} (ev : v = nI (16384 * x + y)) (eU : (gm (gO hc) ez (r + 1) U).1 = some (φ x, φ y)) : LD hc U (r + 1) (upd st x (nI (r + 1))) (upd ends (r + 1) v) := by
  have hP := hc.2.2.2.1
  have un : ∀ i, i ≤ r → upd ends (r + 1) v i = ends i := fun i hi => by unfold upd; rw [if_neg (by omega)]
  have u1 : upd ends (r + 1) v (r + 1) = v := by unfold upd; rw [if_pos rfl]
  refine ⟨by omega, fun i h1 hi => ?_, fun x' hx' => ?_⟩
  · by_cases ir : i = r + 1
    · subst ir
      rw [u1]
      refine ⟨Or.inr ⟨x, y, hx, hy, ev, eU⟩, fun z => ?_⟩
      rw [z] at eU
      exact absurd (show (none : Pt F) = some (φ x, φ y) from eU) (by simp)
    · rw [un i (by omega)]; exact h.2.1 i h1 (by omega)
  · by_cases q : x' = x
    · right
      exact ⟨r + 1, y, by unfold upd; rw [if_pos q], by omega, by omega, by omega, by rw [u1, q]; exact ev⟩
    · have uv : upd st x (nI (r + 1)) x' = st x' := by unfold upd; rw [if_neg q]
      rw [uv]
      rcases h.2.2 x' hx' with ⟨z1, z2⟩ | ⟨i, y', z1, z2, z3, z4, z5⟩
      · left
        refine ⟨z1, fun i y' h1 hi hy' e => ?_⟩
        by_cases ir : i = r + 1
        · subst ir
          rw [u1, ev] at e
          have := (nI_eq (by omega) (by omega)).mp e
          omega
        · rw [un i (by omega)] at e
          exact z2 i y' h1 (by omega) hy' e
      · right
        exact ⟨i, y', z1, z2, by omega, z4, by rw [un i z3]; exact z5⟩
theorem lay_ok {F : Type} [mFld F] {P A B : Nat} {φ : Int → F} (hc : CX F P A B φ) {N : Nat} (hN : 2 ^ 64 ≤ N) {reach : Int32} {st ends : Nat → Int32} (h : SD reach st ends) {u : Int32} {U : EP (φ A) (φ B)} (hu : pe P φ u U.1) (n : Int32) :
    ∃ r back st' ends', mX2_lay N reach st ends (nI P) (nI A) u n = some (n, nI r, back, st', ends') ∧ LD hc U r st' ends' ∧ pe P φ back (en (gm (gO hc) ez (2 * r + 1) U)).1 := by
  have ab := gO_ab hc
  have hP := hc.2.2.2.1
  obtain ⟨o, ho, hz⟩ := lay3 N (by omega) h
  obtain ⟨y3, y4⟩ := o
  have hz' : ∀ x, x < 10007 → y4 x = 0 := hz
  obtain ⟨o2, ho2, r, q1, q2, q3⟩ := mi_run_ok (mX2_lay_b50 N n (nI P) (nI A) u) (fun s => ∃ r, s.2.1 = nI (r + 1) ∧ s.2.2.1 = nI r ∧ pe P φ s.1 (gm (gO hc) ez (r + 1) U).1 ∧ LD hc U r s.2.2.2.1 s.2.2.2.2) (fun s => ∃ r, s.2.2.1 = nI r ∧ pe P φ s.1 (gm (gO hc) ez (r + 1) U).1 ∧ LD hc U r s.2.2.2.1 s.2.2.2.2) (fun s => 200 - s.2.1.toNatClampNeg) (by
    rintro ⟨x11, x12, x13, x14, x15⟩ ⟨r, e1, e2, e3, e4⟩
    have e1' : x12 = nI (r + 1) := e1
    have e2' : x13 = nI r := e2
    subst e1' e2'
    have r127 := e4.1
    dsimp only [mX2_lay_b50, mi_let]
    by_cases c1 : (128 : Int32) ≤ nI (r + 1)
    · right; rw [if_pos c1]; exact ⟨_, rfl, r, rfl, e3, e4⟩
    · rw [if_neg c1]
      have rl : r + 1 < 128 := Nat.lt_of_not_le (fun z => c1 (nI_le (a := 128) z (by omega)))
      by_cases c2 : x11 = -1
      · right; rw [if_pos c2]; exact ⟨_, rfl, r, rfl, e3, e4⟩
      · rw [if_neg c2]
        by_cases c3 : n ≤ ((2 * nI r) * nI r)
        · right; rw [if_pos c3]; exact ⟨_, rfl, r, rfl, e3, e4⟩
        · left
          rw [if_neg c3, if_neg (ix_nI (by omega) (by omega)), nI_clamp (by omega)]
          have e3' : pe P φ x11 (gm (gO hc) ez (r + 1) U).1 := e3
          obtain ⟨w, ew, pw⟩ := sumCe hc N (by omega) e3' hu
          rcases e3' with ⟨z, -⟩ | ⟨x, y, hx, hy, ex, eU⟩
          · exact absurd z c2
          · rw [show mX2_note N x14 x11 (nI (r + 1)) = some (upd x14 x (nI (r + 1))) by rw [ex]; exact note_nI N x14 (by omega) (by omega) _]; simp only [Option.bind_some]
            rw [ew]; simp only [Option.bind_some]
            refine ⟨_, rfl, ⟨r + 1, nI_1 _, rfl, pw, LD_step e4 rl hx hy ex eU⟩, ?_⟩
            · show 200 - (nI (r + 1) + 1).toNatClampNeg < 200 - (r + 1)
              rw [nI_1, nI_clamp (by omega)]; omega) N (u, 1, 0, y4, ends) ⟨0, rfl, rfl, by
        show pe P φ u (gm (gO hc) ez 1 U).1
        rw [gm_1 ab]; exact hu, by omega, fun i h1 hi => by omega, fun x hx => Or.inl ⟨hz' x hx, fun i y h1 hi => by omega⟩⟩ (by
    show 200 - (1 : Int32).toNatClampNeg < N; omega)
  obtain ⟨y16, y17, y18, y19, y20⟩ := o2
  have q1' : y18 = nI r := q1
  subst q1'
  -- the end of the last step
  have el : ∃ w, mX2_endOf N y20 (nI r) = some w ∧ pe P φ w (gm (gO hc) ez r U).1 := by
    by_cases r0 : r = 0
    · subst r0
      exact ⟨-1, endOf_0 N y20, Or.inl ⟨rfl, rfl⟩⟩
    · exact ⟨_, endOf_nI N y20 (by omega) q3.1, (q3.2.1 r (by omega) (Nat.le_refl r)).1⟩
  obtain ⟨w1, e1, p1⟩ := el
  obtain ⟨w2, e2, p2⟩ := sumCe hc N (by omega) (show pe P φ y16 (gm (gO hc) ez (r + 1) U).1 from q2) p1
  obtain ⟨w3, e3, p3⟩ := oppCe hc N p2
  refine ⟨r, w3, y19, y20, ?_, q3, ?_⟩
  · unfold mX2_lay
    rw [ho]; simp only [Option.bind_some]
    rw [ho2]; simp only [Option.bind_some]
    rw [e1]; simp only [Option.bind_some]
    rw [e2]; simp only [Option.bind_some]
    rw [e3]; simp only [Option.bind_some]
  · rw [← gm_add ab, show r + 1 + r = 2 * r + 1 by omega] at p3
    exact p3
