/-- has v a root below P -/
def sqb (P v : Nat) : Bool := (List.range P).any (fun r => r * r % P == v)
theorem sqb_iff {P v : Nat} : sqb P v = true ↔ ∃ r, r < P ∧ r * r % P = v := by
  unfold sqb
  rw [List.any_eq_true]
  constructor
  · intro ⟨r, h1, h2⟩
    exact ⟨r, List.mem_range.mp h1, by simpa using h2⟩
  · intro ⟨r, h1, h2⟩
    exact ⟨r, List.mem_range.mpr h1, by simpa using h2⟩
def wt (P v : Nat) : Nat := if v = 0 then 1 else if sqb P v = true then 2 else 0
def cub (P A B x : Nat) : Nat := ((x * x + A) % P * x + B) % P
/-- 1 and the points over the x below k -/
def cnt (P A B : Nat) : Nat → Nat
  | 0 => 1
  | k + 1 => cnt P A B k + wt P (cub P A B k)
theorem wt_le (P v : Nat) : wt P v ≤ 2 := by
  unfold wt
  by_cases h : v = 0
  · rw [if_pos h]
    omega
  · rw [if_neg h]
    by_cases h2 : sqb P v = true
    · rw [if_pos h2]
      omega
    · rw [if_neg h2]
      omega
theorem cnt_le (P A B k : Nat) : cnt P A B k ≤ 2 * k + 1 := by
  induction k with
  | zero => exact Nat.le_refl _
  | succ k ih =>
    have h := wt_le P (cub P A B k)
    show cnt P A B k + wt P (cub P A B k) ≤ 2 * (k + 1) + 1
    omega
theorem lay22 (N : Nat) (hN : 20000 ≤ N) (P : Nat) (hP : P ≤ 10007) (g0 : Nat → Int32) : ∃ o, mi_run (mX1_lay_b22 N (nI P)) N (0, g0) = some o ∧ ∀ v, v < P → o.2 v = -1 := by
  refine mi_run_ok (mX1_lay_b22 N (nI P)) (fun s => ∃ k, s.1 = nI k ∧ k ≤ P ∧ ∀ v, v < k → s.2 v = -1) (fun o => ∀ v, v < P → o.2 v = -1) (fun s => 15000 - s.1.toNatClampNeg) ?_ N (0, g0) ⟨0, rfl, by omega, fun v hv => by omega⟩ ?_
  · intro ⟨x, f⟩ ⟨k, ex, hkP, hf⟩
    dsimp only at ex hf
    subst ex
    have hk31 : k < 2 ^ 31 := by omega
    dsimp only [mX1_lay_b22, mi_let]
    rcases Nat.lt_or_ge k P with hlt | hge
    · left
      refine ⟨(nI (k + 1), upd f k (-1)), ?_, ⟨k + 1, rfl, by omega, ?_⟩, ?_⟩
      · rw [if_neg (nI_ge hlt (by omega)), if_neg (ix_nI (by omega) (by omega)), nI_clamp hk31, nI_1]
      · intro v hv
        show upd f k (-1) v = -1
        rcases Nat.lt_or_ge v k with q | q
        · rw [pk_un (by omega)]
          exact hf v q
        · have e : v = k := by omega
          subst e
          rw [pk_us]
      · show 15000 - (nI (k + 1)).toNatClampNeg < 15000 - (nI k).toNatClampNeg
        rw [nI_clamp (by omega), nI_clamp hk31]
        omega
    · right
      have e : k = P := by omega
      subst e
      rw [if_pos (nI_le (Nat.le_refl _) hk31)]
      exact ⟨_, rfl, hf⟩
  · show 15000 - (nI 0).toNatClampNeg < N
    rw [nI_clamp (by omega)]
    omega
/-- the roots of m to h - 1 are laid -/
def partTab2 (P h m : Nat) (g : Nat → Int32) : Prop := ∀ v, v < P → (g v = -1 ∧ ∀ r, m ≤ r → r < h → ¬ r * r % P = v) ∨ (∃ r, g v = nI r ∧ m ≤ r ∧ r < h ∧ r * r % P = v ∧ ∀ s, m ≤ s → s < r → ¬ s * s % P = v)
theorem partTab2_put {P h m : Nat} {g : Nat → Int32} (hh0 : partTab2 P h (m + 1) g) (hm : m < h) : partTab2 P h m (upd g (m * m % P) (nI m)) := by
  intro v hv
  by_cases e : v = m * m % P
  · right
    refine ⟨m, ?_, Nat.le_refl _, hm, e.symm, fun s h1 h2 => by omega⟩
    rw [e, pk_us]
  · rw [pk_un e]
    rcases hh0 v hv with ⟨h1, h2⟩ | ⟨r, h1, h2, h3, h4, h5⟩
    · left
      refine ⟨h1, fun r hr hrP hh => ?_⟩
      rcases Nat.lt_or_ge m r with q | q
      · exact h2 r q hrP hh
      · have : r = m := by omega
        subst this
        exact e hh.symm
    · right
      refine ⟨r, h1, by omega, h3, h4, fun s hs hsr hh => ?_⟩
      rcases Nat.lt_or_ge m s with q | q
      · exact h5 s q hsr hh
      · have : s = m := by omega
        subst this
        exact e hh.symm
theorem neg_sq {P r : Nat} (h : r ≤ P) : (P - r) * (P - r) % P = r * r % P := by
  obtain ⟨t, rfl⟩ : ∃ t, P = r + t := ⟨P - r, by omega⟩
  have e : r + t - r = t := by omega
  rw [e]
  have h1 : t * t + (r + t) * r = r * r + (r + t) * t := by
    rw [Nat.add_mul, Nat.add_mul]
    have h2 : t * r = r * t := Nat.mul_comm t r
    omega
  have h3 : (t * t + (r + t) * r) % (r + t) = t * t % (r + t) := Nat.add_mul_mod_self_left _ _ _
  have h4 : (r * r + (r + t) * t) % (r + t) = r * r % (r + t) := Nat.add_mul_mod_self_left _ _ _
  rw [← h3, ← h4, h1]
theorem half_tab {P : Nat} {g : Nat → Int32} (h : partTab2 P (P / 2 + 1) 0 g) : rootTab P g := by
  intro v hv
  rcases h v hv with ⟨h1, h2⟩ | ⟨r, h1, -, h3, h4, h5⟩
  · left
    refine ⟨h1, fun r hr hh => ?_⟩
    rcases Nat.lt_or_ge r (P / 2 + 1) with q | q
    · exact h2 r (Nat.zero_le _) q hh
    · have h6 := neg_sq (P := P) (r := r) (by omega)
      exact h2 (P - r) (Nat.zero_le _) (by omega) (h6.trans hh)
  · right
    exact ⟨r, h1, by omega, h4, fun s hs => h5 s (Nat.zero_le _) hs⟩
theorem lay44 (N : Nat) (hN : 20000 ≤ N) (P : Nat) (h5 : 5 ≤ P) (hP : P ≤ 10007) (g0 : Nat → Int32) (h0 : ∀ v, v < P → g0 v = -1) : ∃ o, mi_run (mX1_lay_b44 N (nI P)) N (nI (P / 2), g0) = some o ∧ rootTab P o.2 := by
  have h1 : 1 ≤ P := by omega
  refine mi_run_ok (mX1_lay_b44 N (nI P)) (fun s => ∃ m, s.1 = nI m + (-1) ∧ m ≤ P / 2 + 1 ∧ partTab2 P (P / 2 + 1) m s.2) (fun o => rootTab P o.2) (fun s => (s.1 + 1).toNatClampNeg) ?_ N (nI (P / 2), g0) ⟨P / 2 + 1, ?_, Nat.le_refl _, ?_⟩ ?_
  · intro ⟨x, g⟩ ⟨m, ex, hmP, hg⟩
    dsimp only at ex hg
    dsimp only [mX1_lay_b44, mi_let]
    cases m with
    | zero =>
      right
      rw [if_pos (show x < 0 by rw [ex]; exact m1neg)]
      exact ⟨_, rfl, half_tab hg⟩
    | succ m =>
      left
      rw [pk_m1] at ex
      subst ex
      have hm := sq_lt (a := m) (P := P) (by omega) hP
      have hx : m * m % P < P := Nat.mod_lt _ h1
      refine ⟨(nI m + (-1), upd g (m * m % P) (nI m)), ?_, ⟨m, rfl, by omega, partTab2_put hg (by omega)⟩, ?_⟩
      · rw [if_neg (nI_pos (by omega)), if_neg (nz_nI h1 hP), pk_mul, rem_nI (by omega) h1 (by omega), if_neg (ix_nI (by omega) (by omega)), nI_clamp (by omega)]
      · show (nI m + (-1) + 1).toNatClampNeg < (nI m + 1).toNatClampNeg
        rw [pm1, nI_1, nI_clamp (by omega), nI_clamp (by omega)]
        omega
  · exact (pk_m1 (P / 2)).symm
  · intro v hv
    exact Or.inl ⟨h0 v hv, fun r hr hrP => by omega⟩
  · show (nI (P / 2) + 1).toNatClampNeg < N
    rw [nI_1, nI_clamp (by omega)]
    omega
/-- the class's table: none, or that of a prime -/
def tabC (pr : Int32) (g : Nat → Int32) : Prop := pr = 0 ∨ ∃ R, pr = nI R ∧ 5 ≤ R ∧ R ≤ 10007 ∧ rootTab R g
theorem lay_spec (N : Nat) (hN : 20000 ≤ N) (P : Nat) (h5 : 5 ≤ P) (hP : P ≤ 10007) (pr : Int32) (g : Nat → Int32) : ∃ g', mX1_lay N pr g (nI P) = some (nI P, g') ∧ rootTab P g' := by
  obtain ⟨o1, e1, q1⟩ := lay22 N hN P hP g
  obtain ⟨o2, e2, q2⟩ := lay44 N hN P h5 hP o1.2 q1
  refine ⟨o2.2, ?_, q2⟩
  unfold mX1_lay
  rw [if_neg (show ¬ nI P < 5 from nI_nlt (a := P) (b := 5) h5 (by omega)), if_pos (show nI P ≤ 10007 from nI_le (a := P) (b := 10007) hP (by omega)), e1]
  show (mi_run (mX1_lay_b44 N (nI P)) N (nI P / 2, o1.2)).bind _ = _
  rw [show nI P / 2 = nI (P / 2) from pk_div (d := 2) (by omega) (by omega) (by omega), e2]
  rfl
theorem leastRoot_spec (N : Nat) (hN : 20000 ≤ N) (P : Nat) (h5 : 5 ≤ P) (hP : P ≤ 10007) (v : Nat) (hv : v < P) (pr : Int32) (g : Nat → Int32) (ht : tabC pr g) : ∃ g', mX1_leastRoot N pr g (nI v) (nI P) = some (g' v, nI P, g') ∧ rootTab P g' := by
  unfold mX1_leastRoot
  have hv31 : v < 2 ^ 31 := by omega
  by_cases h : nI P = pr
  · rw [if_pos h]
    rcases ht with e | ⟨R, e, h1, h2, h3⟩
    · exfalso
      rw [e] at h
      exact nI_ne0 (n := P) (by omega) (by omega) h
    · rw [← h, nI_eq (by omega) (by omega)] at e
      subst e
      refine ⟨g, ?_, h3⟩
      rw [if_neg (nI_pos hv31), ← h, if_neg (nI_ge hv (by omega)), if_neg (ix_nI (by omega) (by omega)), nI_clamp hv31]
      rfl
  · obtain ⟨g', e, h3⟩ := lay_spec N hN P h5 hP pr g
    refine ⟨g', ?_, h3⟩
    rw [if_neg h, e]
    show (if nI v < 0 then _ else if nI P ≤ nI v then _ else if nI v < 0 ∨ 10007 ≤ (nI v).toNatClampNeg then none else _) = _
    rw [if_neg (nI_pos hv31), if_neg (nI_ge hv (by omega)), if_neg (ix_nI (by omega) (by omega)), nI_clamp hv31]
    rfl
theorem root_wt {P : Nat} {g : Nat → Int32} (h : rootTab P g) (hP : P ≤ 10007) {v : Nat} (hv : v < P) (h0 : ¬ v = 0) : (g v ≤ 0 ∧ wt P v = 0) ∨ (¬ g v ≤ 0 ∧ wt P v = 2) := by
  unfold wt
  rw [if_neg h0]
  rcases h v hv with ⟨h1, h2⟩ | ⟨r, h1, h2, h3, h4⟩
  · left
    rw [h1, if_neg]
    · exact ⟨by decide, rfl⟩
    · intro q
      obtain ⟨r, q1, q2⟩ := sqb_iff.mp q
      exact h2 r q1 q2
  · right
    rw [h1, if_pos (sqb_iff.mpr ⟨r, h2, h3⟩)]
    refine ⟨nI_nle ?_ (by omega), rfl⟩
    rcases Nat.eq_zero_or_pos r with e | e
    · exfalso
      rw [e] at h3
      rw [Nat.zero_mul, Nat.zero_mod] at h3
      exact h0 h3.symm
    · exact e
theorem manyAt_spec (N : Nat) (hN : 20000 ≤ N) (P : Nat) (h5 : 5 ≤ P) (hP : P ≤ 10007) (v : Nat) (hv : v < P) (pr : Int32) (g : Nat → Int32) (ht : tabC pr g) : ∃ pr' g', mX3_manyAt N pr g (nI v) (nI P) = some (nI (wt P v), pr', g') ∧ tabC pr' g' := by
  unfold mX3_manyAt
  by_cases h0 : v = 0
  · subst h0
    exact ⟨pr, g, rfl, ht⟩
  · obtain ⟨g', e, h3⟩ := leastRoot_spec N hN P h5 hP v hv pr g ht
    refine ⟨nI P, g', ?_, Or.inr ⟨P, rfl, h5, hP, h3⟩⟩
    rw [if_neg (nI_ne0 (by omega) (by omega)), e]
    show (if g' v ≤ 0 then some (0, nI P, g') else some (2, nI P, g')) = _
    rcases root_wt h3 hP hv h0 with ⟨q1, q2⟩ | ⟨q1, q2⟩
    · rw [if_pos q1, q2]
      rfl
    · rw [if_neg q1, q2]
      rfl
theorem manyPoints_spec (N : Nat) (hN : 20000 ≤ N) (P : Nat) (h5 : 5 ≤ P) (hP : P ≤ 10007) (A B : Nat) (hA : A < P) (hB : B < P) (pr : Int32) (g : Nat → Int32) (ht : tabC pr g) : ∃ pr' g', mX3_manyPoints N pr g (nI P) (nI A) (nI B) = some (nI (cnt P A B P), pr', g') ∧ tabC pr' g' := by
  have h1 : 1 ≤ P := by omega
  obtain ⟨o, e, q1, q2⟩ := mi_run_ok (mX3_manyPoints_b6 N (nI P) (nI A) (nI B)) (fun s => ∃ k, s.2.1 = nI k ∧ k ≤ P ∧ s.1 = nI (cnt P A B k) ∧ tabC s.2.2.1 s.2.2.2) (fun o => o.1 = nI (cnt P A B P) ∧ tabC o.2.2.1 o.2.2.2) (fun s => 15000 - s.2.1.toNatClampNeg) (by
    intro ⟨x, y, z, g⟩ ⟨k, ey, hk, ex, htt⟩
    dsimp only at ey ex htt
    subst ey
    subst ex
    have hk31 : k < 2 ^ 31 := by omega
    dsimp only [mX3_manyPoints_b6, mi_let]
    rcases Nat.lt_or_ge k P with hlt | hge
    · left
      have hs := sq_lt hlt hP
      have hm : (k * k + A) % P < P := Nat.mod_lt _ h1
      have hml := mul_lt hm hlt hP
      have hc : cub P A B k < P := Nat.mod_lt _ h1
      obtain ⟨pr', g', e, ht'⟩ := manyAt_spec N hN P h5 hP (cub P A B k) hc z g htt
      rw [if_neg (nI_ge hlt (by omega)), if_neg (nz_nI h1 hP), if_neg (nz_nI h1 hP), pk_mul, nI_add, rem_nI (by omega) h1 (by omega), pk_mul, nI_add, rem_nI (by omega) h1 (by omega)]
      show ∃ t, (mX3_manyAt N z g (nI (cub P A B k)) (nI P)).bind _ = _ ∧ _
      rw [e]
      refine ⟨(nI (cnt P A B k) + nI (wt P (cub P A B k)), nI k + 1, pr', g'), rfl, ⟨k + 1, nI_1 k, by omega, ?_, ht'⟩, ?_⟩
      · show nI (cnt P A B k) + nI (wt P (cub P A B k)) = nI (cnt P A B k + wt P (cub P A B k))
        exact nI_add _ _
      · show 15000 - (nI k + 1).toNatClampNeg < 15000 - (nI k).toNatClampNeg
        rw [nI_1, nI_clamp (by omega), nI_clamp hk31]
        omega
    · right
      have e : k = P := by omega
      subst e
      rw [if_pos (nI_le (Nat.le_refl _) hk31)]
      exact ⟨_, rfl, rfl, htt⟩) N (1, 0, pr, g) ⟨0, rfl, by omega, rfl, ht⟩ (by
    show 15000 - (nI 0).toNatClampNeg < N
    rw [nI_clamp (by omega)]
    omega)
  obtain ⟨o1, o2, o3, o4⟩ := o
  refine ⟨o3, o4, ?_, q2⟩
  unfold mX3_manyPoints
  rw [e]
  dsimp only at q1
  rw [← q1]
  rfl
