/-! what the reference's small methods answer: something, whatever they are asked -/
theorem shr1_toInt (x : Int64) : (x >>> ((1 : Int32).toInt64 &&& 63)).toInt = x.toInt / 2 := by
  have h : ((1 : Int32).toInt64 &&& 63) = 1 := by decide
  rw [h]
  show (x >>> 1).toBitVec.toInt = x.toBitVec.toInt / 2
  rw [Int64.toBitVec_shiftRight]
  have h2 : (Int64.toBitVec 1).smod 64 = 1#64 := by decide
  rw [h2]
  show (x.toBitVec.sshiftRight (1#64).toNat).toInt = _
  rw [BitVec.toInt_sshiftRight, Int.shiftRight_eq_div_pow]; rfl
theorem lg_cmp_eq0 (x y : Int64) : lg_cmp x y = 0 ↔ x = y := by
  unfold lg_cmp
  constructor
  · intro h
    by_cases c : x > y
    · rw [if_pos c] at h; exact absurd h (by decide)
    · rw [if_neg c] at h
      by_cases d : x = y
      · exact d
      · rw [if_neg d] at h; exact absurd h (by decide)
  · intro h
    subst h
    rw [if_neg (by intro c; exact absurd c (by rw [gt_iff_lt, Int64.lt_iff_toInt_lt]; omega)), if_pos rfl]
theorem l0_toInt : (0 : Int64).toInt = 0 := by decide
theorem poweredA (N : Nat) (hN : 2 ^ 64 ≤ N) (P : Nat) (h1 : 1 ≤ P) (hP : P ≤ 10007) (v : Int32) (e : Int64) : ∃ z, mX6_powered N (nI P) v e = some z := by
  unfold mX6_powered
  obtain ⟨o, ho, -⟩ := mi_run_ok (mX6_powered_b9 N (nI P)) (fun _ => True) (fun _ => True) (fun s => s.2.2.toInt.toNat) (by
    rintro ⟨x1, x2, x3⟩ -
    dsimp only [mX6_powered_b9, mi_let]
    by_cases c : lg_cmp x3 0 ≤ 0
    · right; rw [if_pos c]; exact ⟨_, rfl, trivial⟩
    · left
      rw [if_neg c]
      have c' : 0 < x3.toInt := by
        refine Int.not_le.mp fun h => c ((lg_cmp_le x3 0).mpr (Int64.le_iff_toInt_le.mpr (by rw [l0_toInt]; exact h)))
      have hs := shr1_toInt x3
      obtain ⟨w2, e2, -⟩ := mulA N P h1 hP x2 x2
      by_cases d : lg_cmp (x3 &&& 1) 1 = 0
      · rw [if_pos d]
        obtain ⟨w1, e1, -⟩ := mulA N P h1 hP x1 x2
        rw [e1, e2]
        exact ⟨_, rfl, trivial, by show (x3 >>> _).toInt.toNat < x3.toInt.toNat; rw [hs]; omega⟩
      · rw [if_neg d, e2]
        exact ⟨_, rfl, trivial, by show (x3 >>> _).toInt.toNat < x3.toInt.toNat; rw [hs]; omega⟩) N (1, v, e) trivial (by
    show e.toInt.toNat < N
    have := Int64.toInt_lt e; omega)
  rw [ho]
  exact ⟨_, rfl⟩
theorem noSquareA (N : Nat) (hN : 20000 ≤ N) (P : Nat) (hp : isp P) (h5 : 5 ≤ P) (hP : P ≤ 10007) (g : Nat → Int32) (hg : rootTab P g) : ∃ d, 2 ≤ d ∧ d < P ∧ g d = -1 ∧ (∀ v, 2 ≤ v → v < d → ¬ g v = -1) ∧ mX6_noSquare N g = some (nI d) := by
  obtain ⟨v0, h2, hv, hno⟩ := nosq_ex hp h5
  have hg0 : g v0 = -1 := by
    rcases hg v0 hv with q | ⟨r, e, hr, hrr, -⟩
    · exact q.1
    · exact absurd hrr (hno r hr)
  obtain ⟨d, ⟨d1, d2⟩, hmin⟩ := least_ex (p := fun k => 2 ≤ k ∧ g k = -1) v0 ⟨h2, hg0⟩
  have hd : d ≤ v0 := Nat.le_of_not_lt fun h => hmin v0 h ⟨h2, hg0⟩
  refine ⟨d, d1, by omega, d2, fun v hv2 hvd e => hmin v hvd ⟨hv2, e⟩, ?_⟩
  unfold mX6_noSquare
  obtain ⟨o, ho, hq⟩ := mi_run_ok (mX6_noSquare_b2 N g) (fun s => ∃ k, 2 ≤ k ∧ k ≤ d ∧ s = nI k) (fun o => o = nI d) (fun s => d - s.toNatClampNeg) (by
    rintro x1 ⟨k, hk2, hk, rfl⟩
    dsimp only [mX6_noSquare_b2, mi_let]
    rw [if_neg (ix_nI (k := k) (n := 10008) (by omega) (by omega)), nI_clamp (by omega)]
    by_cases c : g k = -1
    · right
      rw [if_pos c]
      have : k = d := by
        rcases Nat.lt_or_ge k d with q | q
        · exact absurd ⟨hk2, c⟩ (hmin k q)
        · omega
      exact ⟨_, rfl, by rw [this]⟩
    · left
      rw [if_neg c]
      have hne : k ≠ d := fun e => c (e ▸ d2)
      exact ⟨_, rfl, ⟨k + 1, by omega, by omega, nI_1 k⟩, by rw [nI_1, nI_clamp (by omega)]; omega⟩) N 2 ⟨2, by omega, d1, rfl⟩ (by show d - _ < N; omega)
  rw [ho, hq]
  rfl
theorem rightA (N P : Nat) (h1 : 1 ≤ P) (hP : P ≤ 10007) (a b x : Int32) : ∃ z, z < P ∧ mX6_right N (nI P) a b x = some (nI z) := by
  unfold mX6_right
  obtain ⟨w1, e1, -⟩ := mulA N P h1 hP x x
  obtain ⟨w2, e2, -⟩ := mulA N P h1 hP w1 x
  obtain ⟨w3, e3, -⟩ := mulA N P h1 hP a x
  obtain ⟨z, hz, e4, -⟩ := modA N P h1 hP ((w2.toInt64 + w3.toInt64) + b.toInt64)
  refine ⟨z, hz, ?_⟩
  rw [e1]; simp only [Option.bind_some]
  rw [e2]; simp only [Option.bind_some]
  rw [e3]; simp only [Option.bind_some]
  rw [e4]; rfl
theorem ptz {P x y : Nat} (hP : P ≤ 10007) (hx : x < P) (hy : y < P) : (16384 : Int32) * nI x + nI y = nI (16384 * x + y) := by rw [show (16384 : Int32) = nI 16384 from rfl, pk_mul, nI_add]
/-- a point as it is told, or -1 -/
def isP (P : Nat) (q : Int32) : Prop := q = -1 ∨ ∃ x y, x < P ∧ y < P ∧ q = nI (16384 * x + y)
theorem sumX (N P : Nat) (h1 : 1 ≤ P) (hP : P ≤ 10007) (a : Int32) (f : Nat → Int32) (u v : Int32) : ∃ w, mX6_sum N (nI P) a f u v = some w ∧ (u = -1 ∧ w = v ∨ v = -1 ∧ w = u ∨ isP P w) := by
  unfold mX6_sum
  by_cases c1 : u = -1
  · rw [if_pos c1, if_pos c1]; exact ⟨v, rfl, Or.inl ⟨c1, rfl⟩⟩
  · rw [if_neg c1]
    by_cases c2 : v = -1
    · rw [if_pos c2, if_neg c1]; exact ⟨u, rfl, Or.inr (Or.inl ⟨c2, rfl⟩)⟩
    · rw [if_neg c2]
      dsimp only [mi_let]
      generalize u / 16384 = x1
      generalize mi_rem u 16384 = y1
      generalize v / 16384 = x2
      generalize mi_rem v 16384 = y2
      by_cases c3 : x1 = x2
      · rw [if_pos c3, if_neg (nz_nI h1 hP)]
        by_cases c4 : mi_rem (y1 + y2) (nI P) = 0
        · rw [if_pos c4]; exact ⟨-1, rfl, Or.inr (Or.inr (Or.inl rfl))⟩
        · rw [if_neg c4]
          obtain ⟨w1, e1, -⟩ := mulA N P h1 hP x1 x1
          obtain ⟨z2, hz2, e2, -⟩ := modA N P h1 hP ((3 * w1.toInt64) + a.toInt64)
          obtain ⟨z3, hz3, e3, -⟩ := modA N P h1 hP (2 * y1.toInt64)
          rw [e1]; simp only [Option.bind_some]
          rw [e2]; simp only [Option.bind_some]
          rw [e3]; simp only [Option.bind_some]
          rw [if_neg (ix_nI (k := z3) (n := 10008) (by omega) (by omega))]
          generalize f (nI z3).toNatClampNeg = i
          obtain ⟨w4, e4, -⟩ := mulA N P h1 hP (nI z2) i
          obtain ⟨w5, e5, -⟩ := mulA N P h1 hP w4 w4
          obtain ⟨z6, hz6, e6, -⟩ := modA N P h1 hP ((w5.toInt64 - x1.toInt64) - x2.toInt64)
          obtain ⟨z7, hz7, e7, -⟩ := modA N P h1 hP (x1.toInt64 - (nI z6).toInt64)
          obtain ⟨w8, e8, -⟩ := mulA N P h1 hP w4 (nI z7)
          obtain ⟨z9, hz9, e9, -⟩ := modA N P h1 hP (w8.toInt64 - y1.toInt64)
          rw [e4]; simp only [Option.bind_some]
          rw [e5]; simp only [Option.bind_some]
          rw [e6]; simp only [Option.bind_some]
          rw [e7]; simp only [Option.bind_some]
          rw [e8]; simp only [Option.bind_some]
          rw [e9]; simp only [Option.bind_some]
          exact ⟨_, rfl, Or.inr (Or.inr (Or.inr ⟨z6, z9, hz6, hz9, ptz hP hz6 hz9⟩))⟩
      · rw [if_neg c3]
        obtain ⟨z2, hz2, e2, -⟩ := modA N P h1 hP (y2.toInt64 - y1.toInt64)
        obtain ⟨z3, hz3, e3, -⟩ := modA N P h1 hP (x2.toInt64 - x1.toInt64)
        rw [e2]; simp only [Option.bind_some]
        rw [e3]; simp only [Option.bind_some]
        rw [if_neg (ix_nI (k := z3) (n := 10008) (by omega) (by omega))]
        generalize f (nI z3).toNatClampNeg = i
        obtain ⟨w4, e4, -⟩ := mulA N P h1 hP (nI z2) i
        obtain ⟨w5, e5, -⟩ := mulA N P h1 hP w4 w4
        obtain ⟨z6, hz6, e6, -⟩ := modA N P h1 hP ((w5.toInt64 - x1.toInt64) - x2.toInt64)
        obtain ⟨z7, hz7, e7, -⟩ := modA N P h1 hP (x1.toInt64 - (nI z6).toInt64)
        obtain ⟨w8, e8, -⟩ := mulA N P h1 hP w4 (nI z7)
        obtain ⟨z9, hz9, e9, -⟩ := modA N P h1 hP (w8.toInt64 - y1.toInt64)
        rw [e4]; simp only [Option.bind_some]
        rw [e5]; simp only [Option.bind_some]
        rw [e6]; simp only [Option.bind_some]
        rw [e7]; simp only [Option.bind_some]
        rw [e8]; simp only [Option.bind_some]
        rw [e9]; simp only [Option.bind_some]
        exact ⟨_, rfl, Or.inr (Or.inr (Or.inr ⟨z6, z9, hz6, hz9, ptz hP hz6 hz9⟩))⟩
theorem sumP (N P : Nat) (h1 : 1 ≤ P) (hP : P ≤ 10007) (a : Int32) (f : Nat → Int32) {u v : Int32} (hu : isP P u) (hv : isP P v) : ∃ w, mX6_sum N (nI P) a f u v = some w ∧ isP P w := by
  obtain ⟨w, e, h⟩ := sumX N P h1 hP a f u v
  refine ⟨w, e, ?_⟩
  rcases h with ⟨-, h⟩ | ⟨-, h⟩ | h
  · rw [h]; exact hv
  · rw [h]; exact hu
  · exact h
theorem negA (N : Nat) (p u : Int32) : ∃ w, mX6_negativeOf N p u = some w := by
  unfold mX6_negativeOf
  dsimp only [mi_let]
  by_cases c1 : u = -1
  · rw [if_pos c1]; exact ⟨_, rfl⟩
  · rw [if_neg c1]
    by_cases c2 : mi_rem u 16384 = 0
    · rw [if_pos c2]; exact ⟨_, rfl⟩
    · rw [if_neg c2]; exact ⟨_, rfl⟩
theorem half_abs (x : Int64) : (x / 2).toInt.natAbs = x.toInt.natAbs / 2 := by
  have h2 : ((2 : Int64)).toInt = 2 := by decide
  have h1 := Int64.le_toInt x
  have h3 := Int64.toInt_lt x
  have h4 := td_le (a := x.toInt) (b := 2) (by omega)
  rw [Int64.toInt_div, h2, Int.bmod_eq_of_le]
  · rw [Int.natAbs_tdiv]; rfl
  · rcases Int.lt_or_le x.toInt 0 with c | c
    · have := h4.2 c; omega
    · have := h4.1 c; omega
  · rcases Int.lt_or_le x.toInt 0 with c | c
    · have := h4.2 c; omega
    · have := h4.1 c; omega
theorem mult23 (N : Nat) (hN : 2 ^ 64 ≤ N) (P : Nat) (h1 : 1 ≤ P) (hP : P ≤ 10007) (a : Int32) (f : Nat → Int32) (u : Int32) (k : Int64) : ∃ o, mi_run (mX6_multiple_b23 N (nI P) a f) N (-1, u, k) = some o := by
  obtain ⟨o, ho, -⟩ := mi_run_ok (mX6_multiple_b23 N (nI P) a f) (fun _ => True) (fun _ => True) (fun s => s.2.2.toInt.natAbs) (by
    rintro ⟨x3, x4, x5⟩ -
    dsimp only [mX6_multiple_b23, mi_let]
    by_cases c : lg_cmp x5 0 = 0
    · right; rw [if_pos c]; exact ⟨_, rfl, trivial⟩
    · left
      rw [if_neg c]
      have c' : x5.toInt ≠ 0 := fun h => c ((lg_cmp_eq0 x5 0).mpr (Int64.toInt_inj.mp (by rw [l0_toInt]; exact h)))
      have hs := half_abs x5
      obtain ⟨w2, e2, -⟩ := sumX N P h1 hP a f x4 x4
      by_cases d : lg_cmp (mi_lrem x5 2) 0 = 0
      · rw [if_pos d, e2]
        exact ⟨_, rfl, trivial, by show (x5 / 2).toInt.natAbs < x5.toInt.natAbs; rw [hs]; omega⟩
      · rw [if_neg d]
        obtain ⟨w1, e1, -⟩ := sumX N P h1 hP a f x3 x4
        rw [e1]; simp only [Option.bind_some]
        rw [e2]
        exact ⟨_, rfl, trivial, by show (x5 / 2).toInt.natAbs < x5.toInt.natAbs; rw [hs]; omega⟩) N (-1, u, k) trivial (by
    show k.toInt.natAbs < N
    have := Int64.toInt_lt k; have := Int64.le_toInt k; omega)
  exact ⟨o, ho⟩
theorem multA (N : Nat) (hN : 2 ^ 64 ≤ N) (P : Nat) (h1 : 1 ≤ P) (hP : P ≤ 10007) (a : Int32) (f : Nat → Int32) (u : Int32) (k : Int64) : ∃ w, mX6_multiple N (nI P) a f u k = some w := by
  unfold mX6_multiple
  dsimp only [mi_let]
  by_cases c : 0 ≤ lg_cmp k 0
  · rw [if_pos c]
    obtain ⟨o, ho⟩ := mult23 N hN P h1 hP a f u k
    rw [ho]; exact ⟨_, rfl⟩
  · rw [if_neg c]
    obtain ⟨w, e⟩ := negA N (nI P) u
    rw [e]; simp only [Option.bind_some]
    obtain ⟨o, ho⟩ := mult23 N hN P h1 hP a f w k
    rw [ho]; exact ⟨_, rfl⟩
theorem isPointA (N P : Nat) (h1 : 1 ≤ P) (hP : P ≤ 10007) (a b u : Int32) : ∃ w, mX6_isPoint N (nI P) a b u = some w := by
  unfold mX6_isPoint
  dsimp only [mi_let]
  by_cases c1 : u = -1
  · rw [if_pos c1]; exact ⟨_, rfl⟩
  · rw [if_neg c1]
    by_cases c2 : u < 0
    · rw [if_pos c2]; exact ⟨_, rfl⟩
    · rw [if_neg c2]
      by_cases c3 : nI P ≤ u / 16384
      · rw [if_pos c3]; exact ⟨_, rfl⟩
      · rw [if_neg c3]
        by_cases c4 : mi_rem u 16384 < nI P
        · rw [if_pos c4]
          obtain ⟨w1, e1, -⟩ := mulA N P h1 hP (mi_rem u 16384) (mi_rem u 16384)
          obtain ⟨z, hz, e2⟩ := rightA N P h1 hP a b (u / 16384)
          rw [e1]; simp only [Option.bind_some]
          rw [e2]; simp only [Option.bind_some]
          by_cases c5 : w1 = nI z
          · rw [if_pos c5]; exact ⟨_, rfl⟩
          · rw [if_neg c5]; exact ⟨_, rfl⟩
        · rw [if_neg c4]; exact ⟨_, rfl⟩
