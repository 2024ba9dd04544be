/-! longs that don't wrap -/
theorem i64_sub {x y : Int64} {a b : Int} (hx : x.toInt = a) (hy : y.toInt = b) (h1 : -4611686018427387904 ≤ a - b) (h2 : a - b ≤ 4611686018427387904) : (x - y).toInt = a - b := by
  rw [Int64.toInt_sub, hx, hy, Int.bmod_eq_of_le (by omega) (by omega)]
theorem i64_add {x y : Int64} {a b : Int} (hx : x.toInt = a) (hy : y.toInt = b) (h1 : -4611686018427387904 ≤ a + b) (h2 : a + b ≤ 4611686018427387904) : (x + y).toInt = a + b := by
  rw [Int64.toInt_add, hx, hy, Int.bmod_eq_of_le (by omega) (by omega)]
theorem i64_mul {x y : Int64} {a b : Int} (hx : x.toInt = a) (hy : y.toInt = b) (h1 : -4611686018427387904 ≤ a * b) (h2 : a * b ≤ 4611686018427387904) : (x * y).toInt = a * b := by
  rw [Int64.toInt_mul, hx, hy, Int.bmod_eq_of_le (by omega) (by omega)]
theorem modR {F : Type} [mFld F] {P : Nat} {φ : Int → F} (hF : isGF F P φ) (N : Nat) (h1 : 1 ≤ P) (hP : P ≤ 10007) (l : Int64) {a : Int} (ha : l.toInt = a) : ∃ x, x < P ∧ mX6_mod N (nI P) l = some (nI x) ∧ φ (x : Int) = φ a := by
  obtain ⟨x, hx, e, q⟩ := modA N P h1 hP l
  exact ⟨x, hx, e, by rw [q, gf_mod hF, ha]⟩
theorem mulR {F : Type} [mFld F] {P : Nat} {φ : Int → F} (hF : isGF F P φ) (N : Nat) (h1 : 1 ≤ P) (hP : P ≤ 10007) {a b : Nat} (ha : a < P) (hb : b < P) : ∃ x, x < P ∧ mX6_mul N (nI P) (nI a) (nI b) = some (nI x) ∧ φ (x : Int) = φ a * φ b := by
  have := mul_lt ha hb hP
  exact ⟨a * b % P, Nat.mod_lt _ h1, mulM N P a b h1 hP (by omega) (by omega) (by omega), by rw [gf_modN hF, Int.natCast_mul, hm_mul hF.1]⟩
theorem invR {F : Type} [mFld F] {P : Nat} {φ : Int → F} (hF : isGF F P φ) {f : Nat → Int32} (hf : invOK P f) {j : Nat} (hj : j < P) (j0 : φ (j : Int) ≠ 0) : ∃ i, i < P ∧ f j = nI i ∧ φ (i : Int) = (φ (j : Int))⁻¹ := by
  obtain ⟨x, hx, e, k⟩ := hf j hj
  refine ⟨x, hx, e, ?_⟩
  have p0 : 0 < j := Nat.pos_of_ne_zero (fun z => j0 (by rw [z]; exact hm_zero hF.1))
  have d := k p0
  have e2 := (gf_eq hF _ _).mpr d
  rw [hm_mul hF.1, hm_one hF.1] at e2
  exact Lean.Grind.Field.eq_inv_of_mul_eq_one (by rw [← e2]; grind)
/-- halves of a told point -/
theorem pt_split {x y : Nat} (hx : x < 10007) (hy : y < 10007) : nI (16384 * x + y) / 16384 = nI x ∧ mi_rem (nI (16384 * x + y)) 16384 = nI y := by
  rw [show (16384 : Int32) = nI 16384 from rfl, n32_div (by omega) (by omega) (by omega), rem_nI (by omega) (by omega) (by omega)]
  exact ⟨by congr 1; omega, by congr 1; omega⟩
theorem pt_ne {x y : Nat} (hx : x < 10007) (hy : y < 10007) : ¬ nI (16384 * x + y) = -1 := fun e => by
  have := congrArg Int32.toInt e
  rw [nI_toInt (by omega)] at this
  have e2 : (-1 : Int32).toInt = -1 := by decide
  rw [e2] at this; omega
theorem sum0 {F : Type} [mFld F] {P : Nat} {φ : Int → F} (hF : isGF F P φ) {y1 y2 : Nat} : (y1 + y2) % P = 0 ↔ φ (y1 : Int) + φ (y2 : Int) = 0 := by
  rw [← hm_add hF.1, hF.2.1, ← Int.natCast_add, Int.natCast_dvd_natCast]
  exact ⟨Nat.dvd_of_mod_eq_zero, Nat.mod_eq_zero_of_dvd⟩
theorem sumR {F : Type} [mFld F] {P : Nat} {φ : Int → F} (hF : isGF F P φ) (N : Nat) (h5 : 5 ≤ P) (hP : P ≤ 10007) {A B : Nat} (hA : A < P) {f : Nat → Int32} (hf : invOK P f) {u v : Int32} {U V : Pt F} (hu : pe P φ u U) (hv : pe P φ v V) (oU : onE (φ A) (φ B) U) (oV : onE (φ A) (φ B) V) :
    ∃ w, mX6_sum N (nI P) (nI A) f u v = some w ∧ pe P φ w (ad (φ A) U V) := by
  have h1 : 1 ≤ P := by omega
  unfold mX6_sum
  rcases hu with ⟨rfl, rfl⟩ | ⟨x1, y1, hx1, hy1, rfl, rfl⟩
  · rw [if_pos rfl, if_pos rfl]; exact ⟨v, rfl, hv⟩
  · rw [if_neg (pt_ne (by omega) (by omega))]
    rcases hv with ⟨rfl, rfl⟩ | ⟨x2, y2, hx2, hy2, rfl, rfl⟩
    · rw [if_pos rfl, if_neg (pt_ne (by omega) (by omega))]
      exact ⟨_, rfl, Or.inr ⟨x1, y1, hx1, hy1, rfl, rfl⟩⟩
    · rw [if_neg (pt_ne (by omega) (by omega))]
      dsimp only [mi_let]
      rw [(pt_split (x := x1) (y := y1) (by omega) (by omega)).1, (pt_split (x := x1) (y := y1) (by omega) (by omega)).2, (pt_split (x := x2) (y := y2) (by omega) (by omega)).1, (pt_split (x := x2) (y := y2) (by omega) (by omega)).2]
      have tx : ∀ {k : Nat}, k < P → (nI k).toInt64.toInt = (k : Int) := fun hk => nIl_toInt (by omega)
      -- the end, once the slope is there
      have fin : ∀ s : Nat, s < P → φ (s : Int) = sl (φ A) (φ x1, φ y1) (φ x2, φ y2) → ¬ ((φ x1, φ y1).1 = (φ x2, φ y2).1 ∧ (φ x1, φ y1).2 + (φ x2, φ y2).2 = 0) →
          ∃ w, ((mX6_mul N (nI P) (nI s) (nI s)).bind (fun r28 => (mX6_mod N (nI P) ((r28.toInt64 - (nI x1).toInt64) - (nI x2).toInt64)).bind (fun r29 => (mX6_mod N (nI P) ((nI x1).toInt64 - r29.toInt64)).bind (fun r30 => (mX6_mul N (nI P) (nI s) r30).bind (fun r31 => (mX6_mod N (nI P) (r31.toInt64 - (nI y1).toInt64)).bind (fun r32 => some ((16384 * r29) + r32))))))) = some w ∧ pe P φ w (ad (φ A) (some (φ x1, φ y1)) (some (φ x2, φ y2))) := fun s hs es ng => by
        obtain ⟨q, hq, e1, g1⟩ := mulR hF N h1 hP hs hs
        obtain ⟨x3, hx3, e2, g2⟩ := modR hF N h1 hP (((nI q).toInt64 - (nI x1).toInt64) - (nI x2).toInt64) (i64_sub (i64_sub (tx hq) (tx hx1) (by omega) (by omega)) (tx hx2) (by omega) (by omega))
        obtain ⟨d, hd, e3, g3⟩ := modR hF N h1 hP ((nI x1).toInt64 - (nI x3).toInt64) (i64_sub (tx hx1) (tx hx3) (by omega) (by omega))
        obtain ⟨t, ht, e4, g4⟩ := mulR hF N h1 hP hs hd
        obtain ⟨y3, hy3, e5, g5⟩ := modR hF N h1 hP ((nI t).toInt64 - (nI y1).toInt64) (i64_sub (tx ht) (tx hy1) (by omega) (by omega))
        rw [e1]; simp only [Option.bind_some]
        rw [e2]; simp only [Option.bind_some]
        rw [e3]; simp only [Option.bind_some]
        rw [e4]; simp only [Option.bind_some]
        rw [e5]; simp only [Option.bind_some]
        refine ⟨_, rfl, Or.inr ⟨x3, y3, hx3, hy3, ptz hP hx3 hy3, ?_⟩⟩
        rw [ad_gen ng]
        unfold p3
        rw [← es, g5, g2, hm_sub hF.1, hm_sub hF.1, hm_sub hF.1, g1, g4, g3, hm_sub hF.1, g2, hm_sub hF.1, hm_sub hF.1, g1]
      by_cases c : x1 = x2
      · subst c
        rw [if_pos rfl, if_neg (nz_nI h1 hP), nI_add, rem_nI (by omega) (by omega) (by omega)]
        by_cases z : (y1 + y2) % P = 0
        · rw [z, if_pos nI_0]
          refine ⟨-1, rfl, Or.inl ⟨rfl, ?_⟩⟩
          exact ad_inv rfl ((sum0 hF).mp z)
        · rw [if_neg (nI_ne0 (Nat.pos_of_ne_zero z) (by have := Nat.mod_lt (y1 + y2) h1; omega))]
          have ng : ¬ ((φ x1, φ y1).1 = (φ x1, φ y2).1 ∧ (φ x1, φ y1).2 + (φ x1, φ y2).2 = 0) := fun k => z ((sum0 hF).mpr k.2)
          obtain ⟨-, hc⟩ := sl_line oU oV ng
          have hc' := hc.resolve_left (fun k => k rfl)
          obtain ⟨q, hq, e1, g1⟩ := mulR hF N h1 hP hx1 hx1
          have t3 : ((3 : Int64) * (nI q).toInt64 + (nI A).toInt64).toInt = 3 * (q : Int) + A := i64_add (i64_mul (by decide) (tx hq) (by omega) (by omega)) (tx hA) (by omega) (by omega)
          obtain ⟨n, hn, e2, g2⟩ := modR hF N h1 hP ((3 * (nI q).toInt64) + (nI A).toInt64) t3
          have t2 : ((2 : Int64) * (nI y1).toInt64).toInt = 2 * (y1 : Int) := i64_mul (by decide) (tx hy1) (by omega) (by omega)
          obtain ⟨d, hd, e3, g3⟩ := modR hF N h1 hP (2 * (nI y1).toInt64) t2
          have d0 : φ (d : Int) ≠ 0 := by
            rw [g3, hm_mul hF.1, show φ (2 : Int) = OfNat.ofNat (α := F) 2 from gf_num hF 2]; exact hc'.2.2.1
          obtain ⟨i, hi, e4, g4⟩ := invR hF hf hd d0
          obtain ⟨s, hs, e5, g5⟩ := mulR hF N h1 hP hn hi
          have es : φ (s : Int) = sl (φ A) (φ x1, φ y1) (φ x1, φ y2) := by
            rw [g5, g2, g4, g3, hm_add hF.1, hm_mul hF.1, hm_mul hF.1, g1, show φ (3 : Int) = OfNat.ofNat (α := F) 3 from gf_num hF 3, show φ (2 : Int) = OfNat.ofNat (α := F) 2 from gf_num hF 2]
            unfold sl
            rw [if_pos rfl]
            show (3 * (φ x1 * φ x1) + φ A) * (2 * φ y1)⁻¹ = (3 * φ x1 * φ x1 + φ A) * (2 * φ y1)⁻¹
            grind
          rw [e1]; simp only [Option.bind_some]
          rw [e2]; simp only [Option.bind_some]
          rw [e3]; simp only [Option.bind_some]
          rw [if_neg (ix_nI (k := d) (n := 10008) (by omega) (by omega)), nI_clamp (by omega), e4, e5]; simp only [Option.bind_some]
          exact fin s hs es ng
      · rw [if_neg (fun e => c ((nI_eq (by omega) (by omega)).mp e))]
        have ne : φ (x1 : Int) ≠ φ (x2 : Int) := fun e => c (gf_nat hF hx1 hx2 e)
        have ng : ¬ ((φ x1, φ y1).1 = (φ x2, φ y2).1 ∧ (φ x1, φ y1).2 + (φ x2, φ y2).2 = 0) := fun k => ne k.1
        obtain ⟨n, hn, e2, g2⟩ := modR hF N h1 hP ((nI y2).toInt64 - (nI y1).toInt64) (i64_sub (tx hy2) (tx hy1) (by omega) (by omega))
        obtain ⟨d, hd, e3, g3⟩ := modR hF N h1 hP ((nI x2).toInt64 - (nI x1).toInt64) (i64_sub (tx hx2) (tx hx1) (by omega) (by omega))
        have d0 : φ (d : Int) ≠ 0 := fun z => ne (by rw [g3, hm_sub hF.1] at z; grind)
        obtain ⟨i, hi, e4, g4⟩ := invR hF hf hd d0
        obtain ⟨s, hs, e5, g5⟩ := mulR hF N h1 hP hn hi
        have es : φ (s : Int) = sl (φ A) (φ x1, φ y1) (φ x2, φ y2) := by
          rw [g5, g2, g4, g3, hm_sub hF.1, hm_sub hF.1]
          unfold sl
          rw [if_neg ne]
        rw [e2]; simp only [Option.bind_some]
        rw [e3]; simp only [Option.bind_some]
        rw [if_neg (ix_nI (k := d) (n := 10008) (by omega) (by omega)), nI_clamp (by omega), e4, e5]; simp only [Option.bind_some]
        exact fin s hs es ng
theorem negR {F : Type} [mFld F] {P : Nat} {φ : Int → F} (hF : isGF F P φ) (N : Nat) (hP : P ≤ 10007) {u : Int32} {U : Pt F} (hu : pe P φ u U) : ∃ w, mX6_negativeOf N (nI P) u = some w ∧ pe P φ w (ng U) := by
  unfold mX6_negativeOf
  rcases hu with ⟨rfl, rfl⟩ | ⟨x, y, hx, hy, rfl, rfl⟩
  · rw [if_pos rfl]; exact ⟨-1, rfl, Or.inl ⟨rfl, rfl⟩⟩
  · rw [if_neg (pt_ne (by omega) (by omega))]
    dsimp only [mi_let]
    rw [(pt_split (x := x) (y := y) (by omega) (by omega)).2]
    have s1 : nI (16384 * x + y) - nI y = nI (16384 * x) := by rw [← nI_add]; exact Int32.add_sub_cancel _ _
    by_cases y0 : y = 0
    · subst y0
      rw [if_pos nI_0]
      refine ⟨_, rfl, Or.inr ⟨x, 0, hx, hy, ?_, ?_⟩⟩
      · rw [s1]; exact Int32.add_zero _
      · show some (φ x, - φ ((0 : Nat) : Int)) = some (φ x, φ ((0 : Nat) : Int))
        rw [show φ ((0 : Nat) : Int) = 0 from hm_zero hF.1, show -(0 : F) = 0 by grind]
    · rw [if_neg (nI_ne0 (Nat.pos_of_ne_zero y0) (by omega)), s1]
      have s2 : nI P - nI y = nI (P - y) := by
        rw [show nI P = nI (P - y) + nI y by rw [nI_add]; congr 1; omega]; exact Int32.add_sub_cancel _ _
      rw [s2, nI_add]
      refine ⟨_, rfl, Or.inr ⟨x, P - y, hx, by omega, rfl, ?_⟩⟩
      show some (φ x, - φ (y : Int)) = some (φ x, φ ((P - y : Nat) : Int))
      rw [show ((P - y : Nat) : Int) = (P : Int) - y by omega, hm_sub hF.1, (hF.2.1 P).mpr (Int.dvd_refl _), show - φ (y : Int) = 0 - φ (y : Int) by grind]
