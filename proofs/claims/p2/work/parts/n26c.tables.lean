theorem nz_nI {P : Nat} (h1 : 1 ≤ P) (hP : P ≤ 10007) : ¬ nI P = 0 := nI_ne0 h1 (by omega)
theorem nz_lI {P : Nat} (h1 : 1 ≤ P) (hP : P ≤ 10007) : ¬ (nI P).toInt64 = 0 := by
  rw [nI_l (by omega)]
  intro h
  have := (lN_eq (a := P) (b := 0) (by omega) (by omega)).mp h
  omega
theorem sq_lt {a P : Nat} (h : a < P) (hP : P ≤ 10007) : a * a ≤ 100120036 := by
  have h1 : a ≤ 10006 := by omega
  exact Nat.le_trans (Nat.mul_le_mul h1 h1) (by omega)
theorem mul_lt {a b P : Nat} (h : a < P) (h2 : b < P) (hP : P ≤ 10007) : a * b ≤ 100120036 := by
  have h1 : a ≤ 10006 := by omega
  have h3 : b ≤ 10006 := by omega
  exact Nat.le_trans (Nat.mul_le_mul h1 h3) (by omega)
/-- 4 a^3 + 27 b^2 modulo P -/
def disc (P A B : Nat) : Nat := (4 * (A * A % P * A % P) + 27 * (B * B % P)) % P
theorem cubC (N P A B : Nat) (h1 : 1 ≤ P) (hP : P ≤ 10007) (hA : A < P) (hB : B < P) : mX4_cubicMark N (nI A) (nI B) (nI P) = some (nI (disc P A B)) := by
  have hz := nz_nI h1 hP
  have hp0 : 0 < P := h1
  have hm1 : A * A % P < P := Nat.mod_lt _ hp0
  have hm2 : B * B % P < P := Nat.mod_lt _ hp0
  have hx := mul_lt hm1 hA hP
  have ha := sq_lt hA hP
  have hb := sq_lt hB hP
  have hm3 : 4 * (A * A % P) * A % P < P := Nat.mod_lt _ hp0
  have e4 : 4 * (A * A % P) * A = 4 * (A * A % P * A) := by rw [Nat.mul_assoc]
  dsimp only [mX4_cubicMark, mi_let]
  rw [if_neg hz, if_neg hz, if_neg hz, if_neg hz, pk_mul, pk_mul, rem_nI (by omega) hp0 (by omega), rem_nI (by omega) hp0 (by omega)]
  rw [show (4 : Int32) = nI 4 from rfl, show (27 : Int32) = nI 27 from rfl, pk_mul, pk_mul, pk_mul, rem_nI (by omega) hp0 (by omega), nI_add, rem_nI (by omega) hp0 (by omega)]
  congr 2
  unfold disc
  rw [e4, Nat.add_mod, Nat.mod_mod, ← Nat.mul_mod_mod 4, ← Nat.add_mod]
theorem mulM (N P a b : Nat) (h1 : 1 ≤ P) (hP : P ≤ 10007) (hab : a * b < 2 ^ 31) (ha : a < 2 ^ 31) (hb : b < 2 ^ 31) : mX6_mul N (nI P) (nI a) (nI b) = some (nI (a * b % P)) := by
  dsimp only [mX6_mul, mi_let]
  rw [if_neg (nz_lI h1 hP), nI_l ha, nI_l hb, nI_l (by omega), lN_mul]
  unfold mi_lrem
  rw [pk_lRem (by omega) h1 (by omega), lN_i]
theorem modM (N P x : Nat) (h1 : 1 ≤ P) (hP : P ≤ 10007) (hx : x < 2 ^ 63) : mX6_mod N (nI P) (lN x) = some (nI (x % P)) := by
  have hm : x % P < P := Nat.mod_lt _ h1
  dsimp only [mX6_mod, mi_let]
  rw [if_neg (nz_lI h1 hP), nI_l (by omega)]
  unfold mi_lrem
  rw [pk_lRem hx h1 (by omega), lN_i, if_pos (nI_pos' (by omega))]
theorem splitM (N P A B : Nat) (h1 : 1 ≤ P) (hP : P ≤ 10007) (hA : A < P) (hB : B < P) : mX6_split N (nI P) (nI A) (nI B) = some (nI (disc P A B)) := by
  have hp0 : 0 < P := h1
  have hm1 : A * A % P < P := Nat.mod_lt _ hp0
  have hm2 : B * B % P < P := Nat.mod_lt _ hp0
  have hm3 : A * A % P * A % P < P := Nat.mod_lt _ hp0
  have hx := mul_lt hm1 hA hP
  have ha := sq_lt hA hP
  have hb := sq_lt hB hP
  unfold mX6_split
  rw [mulM N P A A h1 hP (by omega) (by omega) (by omega)]
  show (mX6_mul N (nI P) (nI (A * A % P)) (nI A)).bind _ = _
  rw [mulM N P (A * A % P) A h1 hP (by omega) (by omega) (by omega)]
  show (mX6_mul N (nI P) (nI B) (nI B)).bind _ = _
  rw [mulM N P B B h1 hP (by omega) (by omega) (by omega)]
  show (mX6_mod N (nI P) ((4 * (nI (A * A % P * A % P)).toInt64) + (27 * (nI (B * B % P)).toInt64))).bind _ = _
  rw [nI_l (by omega), nI_l (by omega), show (4 : Int64) = lN 4 from rfl, show (27 : Int64) = lN 27 from rfl, lN_mul, lN_mul, lN_add, modM N P _ h1 hP (by omega)]
  rfl
/-- the inverses as the reference lays them -/
def invf (P : Nat) : Nat → Nat → Nat
  | 0, _ => 0
  | n + 1, k => if k = 0 then 0 else if k = 1 then 1 else (P - P / k * invf P n (P % k) % P) % P
def invTab (P : Nat) (f : Nat → Int32) (m : Nat) : Prop := ∀ j, j < m → ∀ n, j ≤ n → f j = nI (invf P n j) ∧ invf P n j < P
/-- the least roots: v has one below P, the least; or none -/
def rootTab (P : Nat) (g : Nat → Int32) : Prop := ∀ v, v < P → (g v = -1 ∧ ∀ r, r < P → ¬ r * r % P = v) ∨ (∃ r, g v = nI r ∧ r < P ∧ r * r % P = v ∧ ∀ s, s < r → ¬ s * s % P = v)
theorem inv0 (P n : Nat) : invf P n 0 = 0 := by
  cases n with
  | zero => rfl
  | succ n => rfl
theorem inv1 (P n : Nat) (h : 1 ≤ n) : invf P n 1 = 1 := by
  cases n with
  | zero => omega
  | succ n => rfl
theorem inv_s (P n k : Nat) (hk : 2 ≤ k) : invf P (n + 1) k = (P - P / k * invf P n (P % k) % P) % P := by
  show (if k = 0 then 0 else if k = 1 then 1 else (P - P / k * invf P n (P % k) % P) % P) = _
  rw [if_neg (by omega), if_neg (by omega)]
theorem ix_nI {k n : Nat} (h : k < n) (hn : n < 2 ^ 31) : ¬ (nI k < 0 ∨ n ≤ (nI k).toNatClampNeg) := nI_in h hn
theorem tp40 (N : Nat) (hN : 20000 ≤ N) (P : Nat) (h5 : 5 ≤ P) (hP : P ≤ 10007) (f0 : Nat → Int32) (h0 : invTab P f0 2) : ∃ o, mi_run (mX6_takePrime_b40 N (nI P)) N (2, f0) = some o ∧ invTab P o.2 P := by
  have h1 : 1 ≤ P := by omega
  refine mi_run_ok (mX6_takePrime_b40 N (nI P)) (fun s => ∃ k, s.1 = nI k ∧ 2 ≤ k ∧ k ≤ P ∧ invTab P s.2 k) (fun o => invTab P o.2 P) (fun s => 15000 - s.1.toNatClampNeg) ?_ N (2, f0) ⟨2, rfl, by omega, by omega, h0⟩ ?_
  · intro ⟨x, f⟩ ⟨k, ex, hk2, hkP, hf⟩
    dsimp only at ex hf
    subst ex
    have hk31 : k < 2 ^ 31 := by omega
    dsimp only [mX6_takePrime_b40, mi_let]
    rcases Nat.lt_or_ge k P with hlt | hge
    · left
      have hkz : ¬ nI k = 0 := nI_ne0 (by omega) hk31
      have hm : P % k < k := Nat.mod_lt _ (by omega)
      have hmk := hf (P % k) hm k (by omega)
      have hi : invf P k (P % k) < P := hmk.2
      have hd : P / k ≤ P := Nat.div_le_self P k
      have hpr : P / k * invf P k (P % k) ≤ 10007 * 10007 := Nat.mul_le_mul (by omega) (by omega)
      have hx : P / k * invf P k (P % k) % P < P := Nat.mod_lt _ h1
      refine ⟨(nI (k + 1), upd f k (nI ((P - P / k * invf P k (P % k) % P) % P))), ?_, ⟨k + 1, rfl, by omega, by omega, ?_⟩, ?_⟩
      · rw [if_neg (nI_ge hlt (by omega)), if_neg hkz, if_neg hkz, rem_nI (by omega) (by omega) hk31, pk_div (by omega) (by omega) hk31, if_neg (ix_nI (by omega) (by omega)), nI_clamp (n := P % k) (by omega), hmk.1, if_neg (nz_lI h1 hP), if_neg (nz_lI h1 hP), nI_l (n := P / k) (by omega), nI_l (n := invf P k (P % k)) (by omega), nI_l (n := P) (by omega), lN_mul]
        unfold mi_lrem
        rw [pk_lRem (by omega) h1 (by omega), lN_sub (by omega), pk_lRem (by omega) h1 (by omega), lN_i, if_neg (ix_nI (by omega) (by omega)), nI_clamp (n := k) (by omega), nI_1]
      · intro j hj n hn
        rcases Nat.lt_or_ge j k with q | q
        · show upd f k _ j = _ ∧ _
          rw [pk_un (by omega)]
          exact hf j q n hn
        · have e : j = k := by omega
          subst e
          show upd f j _ j = _ ∧ _
          rw [pk_us]
          obtain ⟨n, rfl⟩ : ∃ n', n = n' + 1 := ⟨n - 1, by omega⟩
          have h6 := hf (P % j) hm n (by omega)
          have h7 : invf P n (P % j) = invf P j (P % j) := by
            have h8 := h6.1.symm.trans hmk.1
            rw [nI_eq (by omega) (by omega)] at h8
            exact h8
          rw [inv_s P n j hk2, h7]
          exact ⟨rfl, Nat.mod_lt _ h1⟩
      · show 15000 - (nI (k + 1)).toNatClampNeg < 15000 - (nI k).toNatClampNeg
        rw [nI_clamp (by omega), nI_clamp hk31]
        omega
    · right
      have e : k = P := by omega
      subst e
      rw [if_pos (nI_le (Nat.le_refl _) hk31)]
      exact ⟨_, rfl, hf⟩
  · show 15000 - (nI 2).toNatClampNeg < N
    rw [nI_clamp (by omega)]
    omega
theorem tp83 (N : Nat) (hN : 20000 ≤ N) (P : Nat) (hP : P ≤ 10007) (g0 : Nat → Int32) : ∃ o, mi_run (mX6_takePrime_b83 N (nI P)) N (0, g0) = some o ∧ ∀ v, v < P → o.2 v = -1 := by
  refine mi_run_ok (mX6_takePrime_b83 N (nI P)) (fun s => ∃ k, s.1 = nI k ∧ k ≤ P ∧ ∀ v, v < k → s.2 v = -1) (fun o => ∀ v, v < P → o.2 v = -1) (fun s => 15000 - s.1.toNatClampNeg) ?_ N (0, g0) ⟨0, rfl, by omega, fun v hv => by omega⟩ ?_
  · intro ⟨x, f⟩ ⟨k, ex, hkP, hf⟩
    dsimp only at ex hf
    subst ex
    have hk31 : k < 2 ^ 31 := by omega
    dsimp only [mX6_takePrime_b83, mi_let]
    rcases Nat.lt_or_ge k P with hlt | hge
    · left
      refine ⟨(nI (k + 1), upd f k (-1)), ?_, ⟨k + 1, rfl, by omega, ?_⟩, ?_⟩
      · rw [if_neg (nI_ge hlt (by omega)), if_neg (ix_nI (by omega) (by omega)), nI_clamp hk31, nI_1]
      · intro v hv
        show upd f k (-1) v = -1
        rcases Nat.lt_or_ge v k with q | q
        · rw [pk_un (by omega)]
          exact hf v q
        · have e : v = k := by omega
          subst e
          rw [pk_us]
      · show 15000 - (nI (k + 1)).toNatClampNeg < 15000 - (nI k).toNatClampNeg
        rw [nI_clamp (by omega), nI_clamp hk31]
        omega
    · right
      have e : k = P := by omega
      subst e
      rw [if_pos (nI_le (Nat.le_refl _) hk31)]
      exact ⟨_, rfl, hf⟩
  · show 15000 - (nI 0).toNatClampNeg < N
    rw [nI_clamp (by omega)]
    omega
/-- the roots of m and above are laid -/
def partTab (P m : Nat) (g : Nat → Int32) : Prop := ∀ v, v < P → (g v = -1 ∧ ∀ r, m ≤ r → r < P → ¬ r * r % P = v) ∨ (∃ r, g v = nI r ∧ m ≤ r ∧ r < P ∧ r * r % P = v ∧ ∀ s, m ≤ s → s < r → ¬ s * s % P = v)
theorem partTab_put {P m : Nat} {g : Nat → Int32} (h : partTab P (m + 1) g) (hm : m < P) : partTab P m (upd g (m * m % P) (nI m)) := by
  intro v hv
  by_cases e : v = m * m % P
  · right
    refine ⟨m, ?_, Nat.le_refl _, hm, e.symm, fun s h1 h2 => by omega⟩
    rw [e, pk_us]
  · rw [pk_un e]
    rcases h v hv with ⟨h1, h2⟩ | ⟨r, h1, h2, h3, h4, h5⟩
    · left
      refine ⟨h1, fun r hr hrP hh => ?_⟩
      rcases Nat.lt_or_ge m r with q | q
      · exact h2 r q hrP hh
      · have : r = m := by omega
        subst this
        exact e hh.symm
    · right
      refine ⟨r, h1, by omega, h3, h4, fun s hs hsr hh => ?_⟩
      rcases Nat.lt_or_ge m s with q | q
      · exact h5 s q hsr hh
      · have : s = m := by omega
        subst this
        exact e hh.symm
theorem pm1 (m : Nat) : nI m + (-1) + 1 = nI m := by
  have h : ((-1 : Int32) + 1) = 0 := by decide
  rw [Int32.add_assoc, h, Int32.add_zero]
theorem m1neg : nI 0 + (-1) < 0 := by decide
theorem tp105 (N : Nat) (hN : 20000 ≤ N) (P : Nat) (h5 : 5 ≤ P) (hP : P ≤ 10007) (g0 : Nat → Int32) (h0 : ∀ v, v < P → g0 v = -1) : ∃ o, mi_run (mX6_takePrime_b105 N (nI P)) N (nI P - 1, g0) = some o ∧ rootTab P o.2 := by
  have h1 : 1 ≤ P := by omega
  refine mi_run_ok (mX6_takePrime_b105 N (nI P)) (fun s => ∃ m, s.1 = nI m + (-1) ∧ m ≤ P ∧ partTab P m s.2) (fun o => rootTab P o.2) (fun s => (s.1 + 1).toNatClampNeg) ?_ N (nI P - 1, g0) ⟨P, ?_, Nat.le_refl _, ?_⟩ ?_
  · intro ⟨x, g⟩ ⟨m, ex, hmP, hg⟩
    dsimp only at ex hg
    dsimp only [mX6_takePrime_b105, mi_let]
    cases m with
    | zero =>
      right
      rw [if_pos (show x < 0 by rw [ex]; exact m1neg)]
      refine ⟨_, rfl, ?_⟩
      intro v hv
      rcases hg v hv with ⟨q1, q2⟩ | ⟨r, q1, q2, q3, q4, q5⟩
      · exact Or.inl ⟨q1, fun r hr => q2 r (Nat.zero_le _) hr⟩
      · exact Or.inr ⟨r, q1, q3, q4, fun s hs => q5 s (Nat.zero_le _) hs⟩
    | succ m =>
      left
      rw [pk_m1] at ex
      subst ex
      have hm := sq_lt (a := m) (P := P) (by omega) hP
      have hx : m * m % P < P := Nat.mod_lt _ h1
      refine ⟨(nI m + (-1), upd g (m * m % P) (nI m)), ?_, ⟨m, rfl, by omega, partTab_put hg (by omega)⟩, ?_⟩
      · rw [if_neg (nI_pos (by omega)), if_neg (nz_lI h1 hP), nI_l (n := m) (by omega), nI_l (n := P) (by omega), lN_mul]
        unfold mi_lrem
        rw [pk_lRem (by omega) h1 (by omega), lN_i, if_neg (ix_nI (by omega) (by omega)), nI_clamp (by omega)]
      · show (nI m + (-1) + 1).toNatClampNeg < (nI m + 1).toNatClampNeg
        rw [pm1, nI_1, nI_clamp (by omega), nI_clamp (by omega)]
        omega
  · show nI P - 1 = nI P + (-1)
    exact Int32.sub_eq_add_neg _ _
  · intro v hv
    exact Or.inl ⟨h0 v hv, fun r hr hrP => by omega⟩
  · show (nI P - 1 + 1).toNatClampNeg < N
    have e1 : nI P - 1 + 1 = nI P := Int32.sub_add_cancel _ _
    rw [e1, nI_clamp (by omega)]
    omega
/-- the reference's tables: none, or those of a prime -/
def tabM (rt : Int32) (f g : Nat → Int32) : Prop := rt = 0 ∨ ∃ R, rt = nI R ∧ 5 ≤ R ∧ R ≤ 10007 ∧ invTab R f R ∧ rootTab R g
theorem takeP_spec (N : Nat) (hN : 20000 ≤ N) (P : Nat) (h5 : 5 ≤ P) (hP : P ≤ 10007) (rt pm : Int32) (f g : Nat → Int32) (ht : tabM rt f g) : ∃ pm' f' g', mX6_takePrime N rt pm f g (nI P) = some (nI P, nI P, pm', f', g') ∧ invTab P f' P ∧ rootTab P g' := by
  unfold mX6_takePrime
  by_cases h : rt = nI P
  · rw [if_pos h]
    rcases ht with e | ⟨R, e, h1, h2, h3, h4⟩
    · exfalso
      rw [e] at h
      exact nI_ne0 (n := P) (by omega) (by omega) h.symm
    · rw [h, nI_eq (by omega) (by omega)] at e
      subst e
      exact ⟨pm, f, g, by rw [h], h3, h4⟩
  · have hi : invTab P (upd (upd f 0 0) 1 1) 2 := by
      intro j hj n hn
      have e : j = 0 ∨ j = 1 := by omega
      rcases e with rfl | rfl
      · rw [inv0, pk_un (by omega), pk_us]
        exact ⟨rfl, by omega⟩
      · rw [inv1 P n hn, pk_us]
        exact ⟨rfl, by omega⟩
    obtain ⟨o1, e1, q1⟩ := tp40 N hN P h5 hP _ hi
    obtain ⟨o2, e2, q2⟩ := tp83 N hN P hP g
    obtain ⟨o3, e3, q3⟩ := tp105 N hN P h5 hP o2.2 q2
    refine ⟨0, o1.2, o3.2, ?_, q1, q3⟩
    rw [if_neg h, if_neg (by decide)]
    show (if (1 : Int32) < 0 ∨ 10008 ≤ (1 : Int32).toNatClampNeg then none else (mi_run (mX6_takePrime_b40 N (nI P)) N (2, upd (upd f 0 0) 1 1)).bind _) = _
    rw [if_neg (by decide), e1]
    show (mi_run (mX6_takePrime_b83 N (nI P)) N (0, g)).bind _ = _
    rw [e2]
    show (mi_run (mX6_takePrime_b105 N (nI P)) N (nI P - 1, o2.2)).bind _ = _
    rw [e3]
    rfl
