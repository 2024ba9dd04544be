/-! the same as equations, for simp -/
def mulF (N P : Nat) (u v : Int32) : Int32 := (mX6_mul N (nI P) u v).getD 0
theorem mulE (N : Nat) {P : Nat} (h1 : 1 ≤ P) (hP : P ≤ 10007) (u v : Int32) : mX6_mul N (nI P) u v = some (mulF N P u v) := by
  obtain ⟨x, e, -⟩ := mulA N P h1 hP u v
  unfold mulF; rw [e]; rfl
def modF (P : Nat) (l : Int64) : Nat := (l.toInt % (P : Int)).toNat
theorem modE (N : Nat) {P : Nat} (h1 : 1 ≤ P) (hP : P ≤ 10007) (l : Int64) : mX6_mod N (nI P) l = some (nI (modF P l)) := by
  obtain ⟨x, hx, e, h⟩ := modA N P h1 hP l
  unfold modF; rw [e, ← h]; rfl
theorem modF_lt {P : Nat} (h1 : 1 ≤ P) (l : Int64) : modF P l < P := by
  have := Int.emod_lt_of_pos l.toInt (by omega : (0 : Int) < P)
  have := Int.emod_nonneg l.toInt (by omega : (P : Int) ≠ 0)
  unfold modF; omega
theorem modIx {P : Nat} (h1 : 1 ≤ P) (hP : P ≤ 10007) (l : Int64) : (nI (modF P l) < 0 ∨ 10008 ≤ (nI (modF P l)).toNatClampNeg) = False := eq_false (ix_nI (by have := modF_lt h1 l; omega) (by omega))
def rightF (N P : Nat) (a b x : Int32) : Nat := ((mX6_right N (nI P) a b x).getD 0).toNatClampNeg
theorem rightE (N : Nat) {P : Nat} (h1 : 1 ≤ P) (hP : P ≤ 10007) (a b x : Int32) : mX6_right N (nI P) a b x = some (nI (rightF N P a b x)) := by
  obtain ⟨z, hz, e⟩ := rightA N P h1 hP a b x
  unfold rightF; rw [e]; show some (nI z) = some (nI (nI z).toNatClampNeg); rw [nI_clamp (by omega)]
theorem rightF_lt (N : Nat) {P : Nat} (h1 : 1 ≤ P) (hP : P ≤ 10007) (a b x : Int32) : rightF N P a b x < P := by
  obtain ⟨z, hz, e⟩ := rightA N P h1 hP a b x
  unfold rightF; rw [e]; show (nI z).toNatClampNeg < P; rw [nI_clamp (by omega)]; exact hz
theorem rightIx (N : Nat) {P : Nat} (h1 : 1 ≤ P) (hP : P ≤ 10007) (a b x : Int32) : (nI (rightF N P a b x) < 0 ∨ 10008 ≤ (nI (rightF N P a b x)).toNatClampNeg) = False := eq_false (ix_nI (by have := rightF_lt N h1 hP a b x; omega) (by omega))
def sumF (N P : Nat) (a : Int32) (f : Nat → Int32) (u v : Int32) : Int32 := (mX6_sum N (nI P) a f u v).getD 0
theorem sumE (N : Nat) {P : Nat} (h1 : 1 ≤ P) (hP : P ≤ 10007) (a : Int32) (f : Nat → Int32) (u v : Int32) : mX6_sum N (nI P) a f u v = some (sumF N P a f u v) := by
  obtain ⟨x, e, -⟩ := sumX N P h1 hP a f u v
  unfold sumF; rw [e]; rfl
theorem sumF_P (N : Nat) {P : Nat} (h1 : 1 ≤ P) (hP : P ≤ 10007) (a : Int32) (f : Nat → Int32) {u v : Int32} (hu : isP P u) (hv : isP P v) : isP P (sumF N P a f u v) := by
  obtain ⟨x, e, h⟩ := sumP N P h1 hP a f hu hv
  unfold sumF; rw [e]; exact h
def multF (N P : Nat) (a : Int32) (f : Nat → Int32) (u : Int32) (k : Int64) : Int32 := (mX6_multiple N (nI P) a f u k).getD 0
theorem multE {N : Nat} (hN : 2 ^ 64 ≤ N) {P : Nat} (h1 : 1 ≤ P) (hP : P ≤ 10007) (a : Int32) (f : Nat → Int32) (u : Int32) (k : Int64) : mX6_multiple N (nI P) a f u k = some (multF N P a f u k) := by
  obtain ⟨x, e⟩ := multA N hN P h1 hP a f u k
  unfold multF; rw [e]; rfl
def powF (N P : Nat) (v : Int32) (k : Int64) : Int32 := (mX6_powered N (nI P) v k).getD 0
theorem powE {N : Nat} (hN : 2 ^ 64 ≤ N) {P : Nat} (h1 : 1 ≤ P) (hP : P ≤ 10007) (v : Int32) (k : Int64) : mX6_powered N (nI P) v k = some (powF N P v k) := by
  obtain ⟨x, e⟩ := poweredA N hN P h1 hP v k
  unfold powF; rw [e]; rfl
def negF (N P : Nat) (v : Int32) : Int32 := (mX6_negativeOf N (nI P) v).getD 0
theorem negE (N P : Nat) (v : Int32) : mX6_negativeOf N (nI P) v = some (negF N P v) := by
  obtain ⟨x, e⟩ := negA N (nI P) v
  unfold negF; rw [e]; rfl
def isPF (N P : Nat) (a b v : Int32) : Int32 := (mX6_isPoint N (nI P) a b v).getD 0
theorem isPE (N : Nat) {P : Nat} (h1 : 1 ≤ P) (hP : P ≤ 10007) (a b v : Int32) : mX6_isPoint N (nI P) a b v = some (isPF N P a b v) := by
  obtain ⟨x, e⟩ := isPointA N P h1 hP a b v
  unfold isPF; rw [e]; rfl
def inF (a b c : Int64) : Int32 := if b ≤ a ∧ a ≤ c then 1 else 0
theorem inE (N : Nat) (a b c : Int64) : mX6_in N a b c = some (inF a b c) := by
  rw [in_spec]; unfold inF
  by_cases h : b ≤ a ∧ a ≤ c
  · rw [if_pos h, if_pos h]
  · rw [if_neg h, if_neg h]
theorem inF_1 {a b c : Int64} (h : ¬ inF a b c = 0) : b ≤ a ∧ a ≤ c := by
  unfold inF at h
  by_cases q : b ≤ a ∧ a ≤ c
  · exact q
  · rw [if_neg q] at h; exact absurd rfl h
/-! the curves that the reference holds, and the one at which it stands -/
def ST (cu : Int32) (ps as bs : Nat → Int32) : Prop := ∃ n, n ≤ 24 ∧ cu = nI n ∧ ∀ i, i < n → ∃ P A B, isp P ∧ 5 ≤ P ∧ P ≤ 10007 ∧ A < P ∧ B < P ∧ ps i = nI P ∧ as i = nI A ∧ bs i = nI B
def CUR (p a b rt pm : Int32) (f g pts ah : Nat → Int32) : Prop := (pm = 0 ∧ tabM rt f g) ∨ ∃ P A B, CU P A B p a b rt pm f g pts ah
theorem CUR.tab {p a b rt pm : Int32} {f g pts ah : Nat → Int32} (h : CUR p a b rt pm f g pts ah) : tabM rt f g := by
  rcases h with h | ⟨P, A, B, -, -, -, e, -, h5, hP, -, -, hf, hg, -⟩
  · exact h.2
  · exact Or.inr ⟨P, e, h5, hP, hf, hg⟩
theorem take_spec (N : Nat) (hN : 20000 ≤ N) {p a b rt pm : Int32} {f g pts ah : Nat → Int32} (h : CUR p a b rt pm f g pts ah) {P A B : Nat} (hp : isp P) (h5 : 5 ≤ P) (hP : P ≤ 10007) (hA : A < P) (hB : B < P) :
    ∃ pm' f' g', mX6_take N a b rt pm f g (nI P) (nI A) (nI B) = some (nI P, nI A, nI B, nI P, pm', f', g') ∧ CU P A B (nI P) (nI A) (nI B) (nI P) pm' f' g' pts ah := by
  obtain ⟨pm', f', g', e, h1, h2, h3⟩ := takeM2 N hN P h5 hP a b rt pm (nI A) (nI B) f g h.tab
  refine ⟨pm', f', g', e, rfl, rfl, rfl, rfl, hp, h5, hP, hA, hB, h1, h2, ?_⟩
  rcases h3 with e0 | ⟨e1, e2, e3, e4⟩
  · exact Or.inl e0
  · rcases h with ⟨e5, e6⟩ | ⟨P', A', B', f1, f2, f3, f4, f5, f6, f7, f8, f9, f10, f11, f12⟩
    · exact Or.inl (e4.trans e5)
    · have q1 : P' = P := (nI_eq (by omega) (by omega)).mp (f4.symm.trans e1)
      subst q1
      have q2 : A' = A := (nI_eq (by omega) (by omega)).mp (f2.symm.trans e2)
      have q3 : B' = B := (nI_eq (by omega) (by omega)).mp (f3.symm.trans e3)
      subst q2 q3
      rw [e4]; exact f12
theorem has_spec (N : Nat) (hN : 20000 ≤ N) {cu : Int32} {ps as bs : Nat → Int32} (hS : ST cu ps as bs) {p a b rt pm : Int32} {f g pts ah : Nat → Int32} (h : CUR p a b rt pm f g pts ah) (c : Int32) :
    mX6_has N p a b rt pm cu f g ps as bs c = some (0, p, a, b, rt, pm, f, g) ∨ ∃ P A B pm' f' g', mX6_has N p a b rt pm cu f g ps as bs c = some (1, nI P, nI A, nI B, nI P, pm', f', g') ∧ CU P A B (nI P) (nI A) (nI B) (nI P) pm' f' g' pts ah ∧ ¬ (c < 0 ∨ 24 ≤ c.toNatClampNeg) := by
  obtain ⟨n, hn, ecu, hall⟩ := hS
  unfold mX6_has
  rw [inE]; simp only [Option.bind_some]
  by_cases q : inF c.toInt64 0 ((cu - 1).toInt64) = 0
  · left; rw [if_pos q]
  · right
    have hi := inF_1 q
    have hc : ∃ i, i < n ∧ c = nI i := by
      have k1 := Int64.le_iff_toInt_le.mp hi.1
      have k2 := Int64.le_iff_toInt_le.mp hi.2
      rw [Int32.toInt_toInt64, l0_toInt] at k1
      rw [Int32.toInt_toInt64, Int32.toInt_toInt64, ecu] at k2
      have hn1 : (nI n - 1).toInt = (n : Int) - 1 := by
        rw [Int32.toInt_sub, nI_toInt (by omega), show (1 : Int32).toInt = 1 by decide, Int.bmod_eq_of_le (by omega) (by omega)]
      rw [hn1] at k2
      exact ⟨c.toInt.toNat, by omega, i32_toNat k1⟩
    obtain ⟨i, hin, rfl⟩ := hc
    obtain ⟨P, A, B, hp, h5, hP, hA, hB, e1, e2, e3⟩ := hall i hin
    obtain ⟨pm', f', g', e, hCU⟩ := take_spec N hN h hp h5 hP hA hB
    have hix : ¬ (nI i < 0 ∨ 24 ≤ (nI i).toNatClampNeg) := ix_nI (by omega) (by omega)
    refine ⟨P, A, B, pm', f', g', ?_, hCU, hix⟩
    dsimp only [mi_let]
    rw [if_neg q, if_neg hix, if_neg hix, if_neg hix, nI_clamp (by omega), e1, e2, e3, e]
    rfl
theorem turn_spec (N : Nat) (hN : 20000 ≤ N) {P A B : Nat} {pm : Int32} {f g pts ah : Nat → Int32} (h : CU P A B (nI P) (nI A) (nI B) (nI P) pm f g pts ah) : ∃ A' B' pm' f' g', mX6_turn N (nI P) (nI A) (nI B) (nI P) pm f g = some (nI P, nI A', nI B', nI P, pm', f', g') ∧ CU P A' B' (nI P) (nI A') (nI B') (nI P) pm' f' g' pts ah := by
  obtain ⟨-, -, -, -, hp, h5, hP, hA, hB, hf, hg, hL⟩ := id h
  obtain ⟨d, d1, d2, -, -, ed⟩ := noSquareA N hN P hp h5 hP g hg
  have h1 : 1 ≤ P := by omega
  have mm : ∀ x y, x < P → y < P → mX6_mul N (nI P) (nI x) (nI y) = some (nI (x * y % P)) := fun x y hx hy => by
    have := mul_lt hx hy hP
    exact mulM N P x y h1 hP (by omega) (by omega) (by omega)
  have m0 : ∀ z, z % P < P := fun z => Nat.mod_lt z h1
  obtain ⟨pm', f', g', e, hCU⟩ := take_spec N hN (Or.inr ⟨P, A, B, h⟩) hp h5 hP (m0 (A * (d * d % P))) (m0 (B * (d * (d * d % P) % P)))
  refine ⟨_, _, pm', f', g', ?_, hCU⟩
  unfold mX6_turn
  rw [ed]; simp only [Option.bind_some]
  rw [mm d d d2 d2]; simp only [Option.bind_some]
  rw [mm A _ hA (m0 _)]; simp only [Option.bind_some]
  rw [mm d _ d2 (m0 _)]; simp only [Option.bind_some]
  rw [mm B _ hB (m0 _)]; simp only [Option.bind_some]
  rw [e]; rfl
