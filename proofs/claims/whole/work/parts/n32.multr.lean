/-- a curve over a prime field, as the programs hold it -/
def CX (F : Type) [mFld F] (P A B : Nat) (φ : Int → F) : Prop := isGF F P φ ∧ isp P ∧ 5 ≤ P ∧ P ≤ 10007 ∧ A < P ∧ B < P ∧ 4 * φ A * φ A * φ A + 27 * φ B * φ B ≠ 0
theorem cx2 {F : Type} [mFld F] {P A B : Nat} {φ : Int → F} (hc : CX F P A B φ) : (2 : F) ≠ 0 := (gf_ch hc.1).1 2 (by omega) (by have := hc.2.2.1; omega)
theorem cxn {F : Type} [mFld F] {P A B : Nat} {φ : Int → F} (hc : CX F P A B φ) : 4 * φ A * φ A * φ A + 27 * φ B * φ B ≠ 0 := hc.2.2.2.2.2.2
noncomputable abbrev gO {F : Type} [mFld F] {P A B : Nat} {φ : Int → F} (hc : CX F P A B φ) : EP (φ A) (φ B) → EP (φ A) (φ B) → EP (φ A) (φ B) := eo (cx2 hc) (cxn hc)
theorem gO_ab {F : Type} [mFld F] {P A B : Nat} {φ : Int → F} (hc : CX F P A B φ) : isAb (gO hc) ez en := ep_ab (cx2 hc) (cxn hc)
/-- multiples by any whole number -/
noncomputable def gz {G : Type} (op : G → G → G) (e : G) (iv : G → G) (k : Int) (x : G) : G := if 0 ≤ k then gm op e k.toNat x else gm op e (-k).toNat (iv x)
theorem gz_nat {G : Type} (op : G → G → G) (e : G) (iv : G → G) (k : Nat) (x : G) : gz op e iv (k : Int) x = gm op e k x := by
  unfold gz; rw [if_pos (by omega), Int.toNat_natCast]
theorem sumRe {F : Type} [mFld F] {P A B : Nat} {φ : Int → F} (hc : CX F P A B φ) (N : Nat) {f : Nat → Int32} (hf : invOK P f) {u v : Int32} {U V : EP (φ A) (φ B)} (hu : pe P φ u U.1) (hv : pe P φ v V.1) : ∃ w, mX6_sum N (nI P) (nI A) f u v = some w ∧ pe P φ w (gO hc U V).1 :=
  sumR hc.1 N hc.2.2.1 hc.2.2.2.1 hc.2.2.2.2.1 hf hu hv U.2 V.2
theorem negRe {F : Type} [mFld F] {P A B : Nat} {φ : Int → F} (hc : CX F P A B φ) (N : Nat) {u : Int32} {U : EP (φ A) (φ B)} (hu : pe P φ u U.1) : ∃ w, mX6_negativeOf N (nI P) u = some w ∧ pe P φ w (en U).1 := negR hc.1 N hc.2.2.2.1 hu
theorem lrem2 (x : Int64) : lg_cmp (mi_lrem x 2) 0 = 0 ↔ x.toInt.natAbs % 2 = 0 := by
  rw [lg_cmp_eq0]
  have h := lrem_toInt x 2 (by decide)
  rw [show (2 : Int64).toInt = 2 by decide] at h
  rw [← Int64.toInt_inj, h, l0_toInt]
  constructor
  · intro z
    have := Int.dvd_of_tmod_eq_zero z
    omega
  · intro z
    exact Int.tmod_eq_zero_of_dvd (by omega)
theorem mult_ok {G : Type} {op : G → G → G} {e : G} {iv : G → G} (h : isAb op e iv) (al ba : G) (n : Nat) : op al (gm op e n ba) = op (if n % 2 = 0 then al else op al ba) (gm op e (n / 2) (op ba ba)) := by
  have e1 : gm op e (n / 2) (op ba ba) = gm op e (2 * (n / 2)) ba := by
    rw [gm_op h, ← gm_add h]; congr 1; omega
  rw [e1]
  by_cases z : n % 2 = 0
  · rw [if_pos z]; congr 2; omega
  · rw [if_neg z, h.1]
    congr 1
    have : n = 1 + 2 * (n / 2) := by omega
    conv => lhs; rw [this]
    rw [gm_add h, gm_1 h]
theorem multR23 {F : Type} [mFld F] {P A B : Nat} {φ : Int → F} (hc : CX F P A B φ) {N : Nat} (hN : 2 ^ 64 ≤ N) {f : Nat → Int32} (hf : invOK P f) {u : Int32} {U : EP (φ A) (φ B)} (hu : pe P φ u U.1) (k : Int64) : ∃ o, mi_run (mX6_multiple_b23 N (nI P) (nI A) f) N (-1, u, k) = some o ∧ pe P φ o.1 (gm (gO hc) ez k.toInt.natAbs U).1 := by
  have ab := gO_ab hc
  refine mi_run_ok (mX6_multiple_b23 N (nI P) (nI A) f) (fun s => ∃ al ba : EP (φ A) (φ B), pe P φ s.1 al.1 ∧ pe P φ s.2.1 ba.1 ∧ gO hc al (gm (gO hc) ez s.2.2.toInt.natAbs ba) = gm (gO hc) ez k.toInt.natAbs U) (fun o => pe P φ o.1 (gm (gO hc) ez k.toInt.natAbs U).1) (fun s => s.2.2.toInt.natAbs) ?_ N (-1, u, k) ⟨ez, U, Or.inl ⟨rfl, rfl⟩, hu, ab_0l ab _⟩ (by
    show k.toInt.natAbs < N
    have := Int64.toInt_lt k; have := Int64.le_toInt k; omega)
  rintro ⟨x3, x4, x5⟩ ⟨al, ba, h1, h2, h3⟩
  dsimp only [mX6_multiple_b23, mi_let]
  by_cases c : lg_cmp x5 0 = 0
  · right
    rw [if_pos c]
    refine ⟨_, rfl, ?_⟩
    have x0 : x5 = 0 := (lg_cmp_eq0 x5 0).mp c
    have h3' : gO hc al (gm (gO hc) ez x5.toInt.natAbs ba) = gm (gO hc) ez k.toInt.natAbs U := h3
    rw [x0, l0_toInt] at h3'
    rw [← h3']
    show pe P φ x3 (gO hc al ez).1
    rw [ab.2.2.1]; exact h1
  · left
    rw [if_neg c]
    have pos : x5.toInt.natAbs ≠ 0 := fun z => c ((lg_cmp_eq0 x5 0).mpr (Int64.toInt_inj.mp (by rw [l0_toInt]; omega)))
    obtain ⟨w2, e2, q2⟩ := sumRe hc N hf (show pe P φ x4 ba.1 from h2) (show pe P φ x4 ba.1 from h2)
    have hb := half_abs x5
    have st := mult_ok ab al ba x5.toInt.natAbs
    by_cases d : lg_cmp (mi_lrem x5 2) 0 = 0
    · rw [if_pos d, e2]
      refine ⟨_, rfl, ⟨al, gO hc ba ba, h1, q2, ?_⟩, ?_⟩
      · show gO hc al (gm (gO hc) ez (x5 / 2).toInt.natAbs (gO hc ba ba)) = _
        rw [hb, ← h3, st, if_pos ((lrem2 x5).mp d)]
      · show (x5 / 2).toInt.natAbs < x5.toInt.natAbs
        rw [hb]; omega
    · obtain ⟨w1, e1, q1⟩ := sumRe hc N hf (show pe P φ x3 al.1 from h1) (show pe P φ x4 ba.1 from h2)
      rw [if_neg d, e1]; simp only [Option.bind_some]
      rw [e2]; simp only [Option.bind_some]
      refine ⟨_, rfl, ⟨gO hc al ba, gO hc ba ba, q1, q2, ?_⟩, ?_⟩
      · show gO hc (gO hc al ba) (gm (gO hc) ez (x5 / 2).toInt.natAbs (gO hc ba ba)) = _
        rw [hb, ← h3, st, if_neg (fun z => d ((lrem2 x5).mpr z))]
      · show (x5 / 2).toInt.natAbs < x5.toInt.natAbs
        rw [hb]; omega
theorem multR {F : Type} [mFld F] {P A B : Nat} {φ : Int → F} (hc : CX F P A B φ) {N : Nat} (hN : 2 ^ 64 ≤ N) {f : Nat → Int32} (hf : invOK P f) {u : Int32} {U : EP (φ A) (φ B)} (hu : pe P φ u U.1) (k : Int64) : ∃ w, mX6_multiple N (nI P) (nI A) f u k = some w ∧ pe P φ w (gz (gO hc) ez en k.toInt U).1 := by
  unfold mX6_multiple gz
  dsimp only [mi_let]
  by_cases c : 0 ≤ lg_cmp k 0
  · have k0 : 0 ≤ k.toInt := by
      have := (lg_cmp_ge k 0).mp c
      have := Int64.le_iff_toInt_le.mp this
      rwa [l0_toInt] at this
    obtain ⟨o, ho, q⟩ := multR23 hc hN hf hu k
    rw [if_pos c, ho, if_pos k0]
    obtain ⟨o1, o2, o3⟩ := o
    exact ⟨o1, rfl, by rw [show k.toInt.toNat = k.toInt.natAbs by omega]; exact q⟩
  · have k0 : ¬ 0 ≤ k.toInt := fun z => c ((lg_cmp_ge k 0).mpr (Int64.le_iff_toInt_le.mpr (by rw [l0_toInt]; exact z)))
    obtain ⟨w, ew, qw⟩ := negRe hc N hu
    obtain ⟨o, ho, q⟩ := multR23 hc hN hf qw k
    rw [if_neg c, ew]; simp only [Option.bind_some]
    rw [ho, if_neg k0]
    obtain ⟨o1, o2, o3⟩ := o
    exact ⟨o1, rfl, by rw [show (-k.toInt).toNat = k.toInt.natAbs by omega]; exact q⟩
