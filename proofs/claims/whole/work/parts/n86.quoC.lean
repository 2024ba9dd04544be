/-! the curve that a kernel makes -/
theorem xy_ex {F : Type} [mFld F] {P A B : Nat} {φ : Int → F} (hc : CX F P A B φ) {U : EP (φ A) (φ B)} {o : Nat} (oU : isOrd (gO hc) ez o U) : ∃ X Y : Nat → Nat, ∀ k, 0 < k → k < o → X k < P ∧ Y k < P ∧ (gm (gO hc) ez k U).1 = some (φ (X k : Nat), φ (Y k : Nat)) := by
  have ex : ∀ k, ∃ p : Nat × Nat, 0 < k → k < o → p.1 < P ∧ p.2 < P ∧ (gm (gO hc) ez k U).1 = some (φ (p.1 : Nat), φ (p.2 : Nat)) := fun k => by
    by_cases c : 0 < k ∧ k < o
    · rcases e : (gm (gO hc) ez k U).1 with _ | ⟨X, Y⟩
      · exact absurd (Subtype.ext e) (oU.2.2 k c.1 c.2)
      · obtain ⟨x, hx, ex⟩ := hc.1.2.2 X
        obtain ⟨y, hy, ey⟩ := hc.1.2.2 Y
        exact ⟨(x, y), fun _ _ => ⟨hx, hy, by rw [ex, ey]⟩⟩
    · exact ⟨(0, 0), fun a b => absurd ⟨a, b⟩ c⟩
  obtain ⟨f, hf⟩ := Classical.axiomOfChoice ex
  exact ⟨fun k => (f k).1, fun k => (f k).2, hf⟩
def qT (X : Nat → Nat) (A : Nat) : Nat → Nat
  | 0 => 0
  | k + 1 => qT X A k + (3 * X (k + 1) * X (k + 1) + A)
def qW (X : Nat → Nat) (A B : Nat) : Nat → Nat
  | 0 => 0
  | k + 1 => qW X A B k + (5 * (X (k + 1) * X (k + 1) * X (k + 1)) + 3 * (A * X (k + 1)) + 2 * B)
theorem pe_xy {F : Type} [mFld F] {P : Nat} {φ : Int → F} (h : isGF F P φ) {u : Int32} {x y : Nat} (hx : x < P) (hy : y < P) {W : Pt F} (p : pe P φ u W) (e : W = some (φ (x : Nat), φ (y : Nat))) : u = nI (16384 * x + y) := pe_inj h p (Or.inr ⟨x, y, hx, hy, rfl, e⟩)
theorem q_m1 (s v x A P : Nat) : (s % P + 3 * (x * x % P) + A) % P = (s + (3 * x * x + A)) % P := by
  have h1 := Nat.mod_add_div s P
  have h2 := Nat.mod_add_div (x * x) P
  have h3 : P * (3 * (x * x / P)) = 3 * (P * (x * x / P)) := Nat.mul_left_comm _ _ _
  have h4 : 3 * x * x = 3 * (x * x) := Nat.mul_assoc _ _ _
  have h5 : P * (s / P + 3 * (x * x / P)) = P * (s / P) + P * (3 * (x * x / P)) := Nat.mul_add _ _ _
  have e : s + (3 * x * x + A) = (s % P + 3 * (x * x % P) + A) + P * (s / P + 3 * (x * x / P)) := by omega
  rw [e, Nat.add_mul_mod_self_left]
theorem q_m2 (s x A B P : Nat) : (s % P + 5 * (x * x % P) * x + 3 * A * x + 2 * B) % P = (s + (5 * (x * x * x) + 3 * (A * x) + 2 * B)) % P := by
  have h1 := Nat.mod_add_div s P
  have h2 : x * x * x = (x * x % P) * x + P * (x * x / P * x) := by
    conv => lhs; rw [← Nat.mod_add_div (x * x) P]
    rw [Nat.add_mul, Nat.mul_assoc]
  have h3 : P * (5 * (x * x / P * x)) = 5 * (P * (x * x / P * x)) := Nat.mul_left_comm _ _ _
  have h4 : 3 * A * x = 3 * (A * x) := Nat.mul_assoc _ _ _
  have h6 : 5 * (x * x % P) * x = 5 * (x * x % P * x) := Nat.mul_assoc _ _ _
  have h5 : P * (s / P + 5 * (x * x / P * x)) = P * (s / P) + P * (5 * (x * x / P * x)) := Nat.mul_add _ _ _
  have e : s + (5 * (x * x * x) + 3 * (A * x) + 2 * B) = (s % P + 5 * (x * x % P) * x + 3 * A * x + 2 * B) + P * (s / P + 5 * (x * x / P * x)) := by omega
  rw [e, Nat.add_mul_mod_self_left]
/-- the new curve's numbers -/
def qA (P A : Nat) (t : Nat) : Nat := (((A : Int) - 5 * ((t % P : Nat) : Int)) % (P : Int)).toNat
def qB (P B : Nat) (w : Nat) : Nat := (((B : Int) - 7 * ((w % P : Nat) : Int)) % (P : Int)).toNat
theorem divC {N : Nat} (hN : 2 ^ 64 ≤ N) {F : Type} [mFld F] {P A B : Nat} {φ : Int → F} (hc : CX F P A B φ) {u : Int32} {U : EP (φ A) (φ B)} (hu : pe P φ u U.1) {o : Nat} (oU : isOrd (gO hc) ez o U) {X Y : Nat → Nat} (hX : ∀ k, 0 < k → k < o → X k < P ∧ Y k < P ∧ (gm (gO hc) ez k U).1 = some (φ (X k : Nat), φ (Y k : Nat))) (c : Int32) : (o ≤ 400 ∧ mX0_dividedBy N (nI P) (nI A) (nI B) u c = some (.inr (nI P, nI (qA P A (qT X A (o - 1))), nI (qB P B (qW X A B (o - 1))), c, u, nI o, 0, 0, 0, 0, -1, -1))) ∨ (400 < o ∧ mX0_dividedBy N (nI P) (nI A) (nI B) u c = some (.inl ())) := by
  have ab := gO_ab hc
  have hc0 := hc
  obtain ⟨hF, hp, h5, hP, hA, hB, -⟩ := hc0
  have h1 : 1 ≤ P := by omega
  have o0 := oU.1
  obtain ⟨⟨y5, y6, y7, y8⟩, eo, k, e5, e6, e7, k0, ko, k4, p8, fin⟩ := mi_run_ok (mX0_dividedBy_b11 N (nI P) (nI A) (nI B) u) (fun s => ∃ k, s.1 = nI (qT X A (k - 1) % P) ∧ s.2.1 = nI (qW X A B (k - 1) % P) ∧ s.2.2.1 = nI k ∧ 0 < k ∧ k ≤ o ∧ k ≤ 400 ∧ pe P φ s.2.2.2 (gm (gO hc) ez k U).1) (fun s => ∃ k, s.1 = nI (qT X A (k - 1) % P) ∧ s.2.1 = nI (qW X A B (k - 1) % P) ∧ s.2.2.1 = nI k ∧ 0 < k ∧ k ≤ o ∧ k ≤ 400 ∧ pe P φ s.2.2.2 (gm (gO hc) ez k U).1 ∧ (k = 400 ∨ k = o)) (fun s => 1000 - s.2.2.1.toNatClampNeg) (by
    rintro ⟨x1, x2, x3, x4⟩ ⟨k, e1, e2, e3, k0, ko, k4, p4⟩
    have e1 : x1 = nI (qT X A (k - 1) % P) := e1
    have e2 : x2 = nI (qW X A B (k - 1) % P) := e2
    have e3 : x3 = nI k := e3
    have p4 : pe P φ x4 (gm (gO hc) ez k U).1 := p4
    subst e1 e2 e3
    dsimp only [mX0_dividedBy_b11, mi_let]
    by_cases c4 : 400 ≤ k
    · right
      rw [if_pos (show 400 ≤ nI k from nI_le (a := 400) c4 (by omega))]
      exact ⟨_, rfl, k, rfl, rfl, rfl, k0, ko, k4, p4, Or.inl (by omega)⟩
    · rw [if_neg (show ¬ 400 ≤ nI k from nI_ge (b := 400) (by omega) (by omega))]
      have n1 : x4 = -1 ↔ k = o := (pe_none hP p4).trans ⟨fun z => by
        rcases Nat.lt_or_ge k o with y | y
        · exact absurd (Subtype.ext z) (oU.2.2 k k0 y)
        · omega, fun z => by rw [z, oU.2.1]; rfl⟩
      by_cases c1 : x4 = -1
      · right
        rw [if_pos c1]
        exact ⟨_, rfl, k, rfl, rfl, rfl, k0, ko, k4, p4, Or.inr (n1.mp c1)⟩
      · left
        have klt : k < o := by
          rcases Nat.lt_or_ge k o with y | y
          · exact y
          · exact absurd (n1.mpr (by omega)) c1
        obtain ⟨hXk, hYk, ek⟩ := hX k k0 klt
        have ex : x4 = nI (16384 * X k + Y k) := pe_xy hF hXk hYk p4 ek
        obtain ⟨w, ew, pw⟩ := sumCe hc N (by omega) p4 hu
        have xx := mul_lt hXk hXk hP
        have ax := mul_lt hA hXk hP
        have l1 : X k * X k % P < P := Nat.mod_lt _ h1
        have xl := mul_lt l1 hXk hP
        have lt : qT X A (k - 1) % P < P := Nat.mod_lt _ h1
        have lw : qW X A B (k - 1) % P < P := Nat.mod_lt _ h1
        have a1 : 5 * (X k * X k % P) * X k = 5 * (X k * X k % P * X k) := Nat.mul_assoc _ _ _
        have a2 : 3 * A * X k = 3 * (A * X k) := Nat.mul_assoc _ _ _
        have zP := nz_nI h1 hP
        rw [if_neg c1, ew, ex, (xOf_nI N (x := X k) (y := Y k) (by omega) (by omega)).1]; simp only [Option.bind_some]
        rw [if_neg zP, if_neg zP, if_neg zP]
        rw [show (3 : Int32) = nI 3 from rfl, show (5 : Int32) = nI 5 from rfl, show (2 : Int32) = nI 2 from rfl]
        simp only [pk_mul]
        rw [rem_nI (by omega) (by omega) (by omega)]
        simp only [pk_mul, nI_add]
        rw [rem_nI (by omega) (by omega) (by omega), rem_nI (by rw [a1, a2]; omega) (by omega) (by omega), q_m1 _ 0, q_m2]
        refine ⟨_, rfl, ⟨k + 1, ?_, ?_, nI_1 k, by omega, by omega, by omega, pw⟩, ?_⟩
        · show nI _ = nI _
          rw [show k + 1 - 1 = (k - 1) + 1 by omega]
          show _ = nI ((qT X A (k - 1) + (3 * X (k - 1 + 1) * X (k - 1 + 1) + A)) % P)
          rw [show k - 1 + 1 = k by omega]
        · show nI _ = nI _
          rw [show k + 1 - 1 = (k - 1) + 1 by omega]
          show _ = nI ((qW X A B (k - 1) + (5 * (X (k - 1 + 1) * X (k - 1 + 1) * X (k - 1 + 1)) + 3 * (A * X (k - 1 + 1)) + 2 * B)) % P)
          rw [show k - 1 + 1 = k by omega]
        · show 1000 - (nI k + 1).toNatClampNeg < 1000 - (nI k).toNatClampNeg
          rw [nI_1, nI_clamp (by omega), nI_clamp (by omega)]; omega) N (0, 0, 1, u) ⟨1, rfl, rfl, rfl, by omega, by omega, by omega, by rw [gm_1 ab]; exact hu⟩ (by show 1000 - _ < N; omega)
  have e5 : y5 = _ := e5
  have e6 : y6 = _ := e6
  have e7 : y7 = _ := e7
  have p8 : pe P φ y8 (gm (gO hc) ez k U).1 := p8
  subst e5 e6 e7
  unfold mX0_dividedBy
  rw [eo]; simp only [Option.bind_some]
  by_cases c4 : o ≤ 400
  · left
    have kk : k = o := by
      rcases fin with z | z
      · omega
      · exact z
    subst kk
    rw [oU.2.1] at p8
    have lt : qT X A (k - 1) % P < P := Nat.mod_lt _ h1
    have lw : qW X A B (k - 1) % P < P := Nat.mod_lt _ h1
    have s1 : nI A - 5 * nI (qT X A (k - 1) % P) = zI ((A : Int) - 5 * ((qT X A (k - 1) % P : Nat) : Int)) := by rw [nI_zI, nI_zI, show (5 : Int32) = zI 5 from rfl, zI_mul, zI_sub]
    have s2 : nI B - 7 * nI (qW X A B (k - 1) % P) = zI ((B : Int) - 7 * ((qW X A B (k - 1) % P : Nat) : Int)) := by rw [nI_zI, nI_zI, show (7 : Int32) = zI 7 from rfl, zI_mul, zI_sub]
    rw [if_pos ((pe_none hP p8).mpr rfl), s1, s2, fmod_spec N (by omega) (by omega) (by omega) (by omega)]; simp only [Option.bind_some]
    rw [fmod_spec N (by omega) (by omega) (by omega) (by omega)]; simp only [Option.bind_some]
    exact ⟨c4, rfl⟩
  · right
    have kk : k = 400 := by omega
    subst kk
    rw [if_neg (fun z => oU.2.2 400 (by omega) (by omega) (Subtype.ext ((pe_none hP p8).mp z)))]
    exact ⟨by omega, rfl⟩
