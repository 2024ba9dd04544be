/-! the curves that a kernel makes over the numbers modulo 5, one by one -/
def inv5 (z : Nat) : Nat := z * z * z % 5
def ln5 (A : Nat) (p q : Nat × Nat) : Nat := if p.1 = q.1 then (3 * p.1 * p.1 + A) * inv5 (2 * p.2 % 5) % 5 else (q.2 + 4 * p.2) * inv5 ((q.1 + 4 * p.1) % 5) % 5
def pt5 (p q : Nat × Nat) (l : Nat) : Nat × Nat := ((l * l + 4 * p.1 + 4 * q.1) % 5, (l * (p.1 + 4 * ((l * l + 4 * p.1 + 4 * q.1) % 5)) + 4 * p.2) % 5)
def add5 (A : Nat) : Option (Nat × Nat) → Option (Nat × Nat) → Option (Nat × Nat)
  | none, q => q
  | some p, none => some p
  | some p, some q => if p.1 = q.1 ∧ (p.2 + q.2) % 5 = 0 then none else some (pt5 p q (ln5 A p q))
def it5 (A : Nat) (p : Option (Nat × Nat)) : Nat → Option (Nat × Nat)
  | 0 => none
  | n + 1 => add5 A (it5 A p n) p
def x5 : Option (Nat × Nat) → Nat
  | none => 0
  | some p => p.1
def s5 (A B : Nat) (p : Option (Nat × Nat)) : Nat → Nat
  | 0 => 0
  | n + 1 => (s5 A B p n + (5 * (x5 (it5 A p (n + 1)) * x5 (it5 A p (n + 1)) * x5 (it5 A p (n + 1))) + 3 * (A * x5 (it5 A p (n + 1))) + 2 * B)) % 5
def ok5 : Bool := (List.range 5).all fun A => (List.range 5).all fun B => ((4 * A * A * A + 27 * B * B) % 5 == 0) || (List.range 5).all fun x => (List.range 5).all fun y => !(y * y % 5 == (x * x * x + A * x + B) % 5) || (List.range 12).all fun n => n == 0 || !((it5 A (some (x, y)) n).isNone && (List.range n).all fun i => i == 0 || (it5 A (some (x, y)) i).isSome) || !((4 * A * A * A + 27 * (B + 3 * s5 A B (some (x, y)) (n - 1)) * (B + 3 * s5 A B (some (x, y)) (n - 1))) % 5 == 0)
theorem ok5_ok : ok5 = true := by decide +kernel
def em5 {F : Type} [mFld F] (φ : Int → F) : Option (Nat × Nat) → Pt F
  | none => none
  | some p => some (φ (p.1 : Nat), φ (p.2 : Nat))
def lt5 : Option (Nat × Nat) → Prop
  | none => True
  | some p => p.1 < 5 ∧ p.2 < 5
theorem add5_lt {A : Nat} {p q : Option (Nat × Nat)} (hp : lt5 p) (hq : lt5 q) : lt5 (add5 A p q) := by
  rcases p with _ | p
  · exact hq
  · rcases q with _ | q
    · exact hp
    · show lt5 (if p.1 = q.1 ∧ (p.2 + q.2) % 5 = 0 then none else some (pt5 p q (ln5 A p q)))
      split
      · trivial
      · exact ⟨Nat.mod_lt _ (by omega), Nat.mod_lt _ (by omega)⟩
theorem inv5_ok {F : Type} [mFld F] {φ : Int → F} (hF : isGF F 5 φ) {z : Nat} (hz : φ ((z : Nat) : Int) ≠ 0) : (φ ((z : Nat) : Int))⁻¹ = φ ((inv5 z : Nat) : Int) := by
  have h1 : φ ((inv5 z : Nat) : Int) * φ ((z : Nat) : Int) = 1 := by
    rw [← hF.1.2.2, ← hF.1.1]
    refine (gf_eq hF _ _).mpr ?_
    have nz : ¬ z % 5 = 0 := fun w => hz ((hF.2.1 _).mpr (by omega))
    unfold inv5
    have : (z * z * z % 5 * z) % 5 = 1 := by
      rw [Nat.mul_mod, Nat.mod_mod, ← Nat.mul_mod]
      have h5 : z % 5 = 1 ∨ z % 5 = 2 ∨ z % 5 = 3 ∨ z % 5 = 4 := by omega
      have e : (z * z * z * z) % 5 = ((z % 5) * (z % 5) * (z % 5) * (z % 5)) % 5 := by
        simp only [Nat.mul_mod, Nat.mod_mod]
      rw [e]
      rcases h5 with h | h | h | h <;> rw [h]
    rw [← Int.natCast_mul]; omega
  have h2 := Lean.Grind.Field.mul_inv_cancel hz
  have : (φ ((z : Nat) : Int))⁻¹ = (φ ((inv5 z : Nat) : Int) * φ ((z : Nat) : Int)) * (φ ((z : Nat) : Int))⁻¹ := by rw [h1]; grind
  rw [this]
  have e : (φ ((inv5 z : Nat) : Int) * φ ((z : Nat) : Int)) * (φ ((z : Nat) : Int))⁻¹ = φ ((inv5 z : Nat) : Int) * (φ ((z : Nat) : Int) * (φ ((z : Nat) : Int))⁻¹) := by grind
  rw [e, h2]; grind
theorem m5 {F : Type} [mFld F] {φ : Int → F} (hF : isGF F 5 φ) (z : Nat) : φ ((4 * z : Nat) : Int) = - φ (z : Nat) := by
  rw [← hm_neg hF.1]
  refine (gf_eq hF _ _).mpr ?_
  exact ⟨z, by omega⟩
theorem add5_ok {F : Type} [mFld F] {φ : Int → F} (hF : isGF F 5 φ) (A : Nat) {p q : Option (Nat × Nat)} (hp : lt5 p) (hq : lt5 q) (h2 : (2 : F) ≠ 0) (cur : ∀ P Q, p = some P → q = some Q → P.1 = Q.1 → ¬ (P.2 + Q.2) % 5 = 0 → P.2 = Q.2) : ad (φ A) (em5 φ p) (em5 φ q) = em5 φ (add5 A p q) := by
  rcases p with _ | ⟨p1, p2⟩
  · rfl
  · rcases q with _ | ⟨q1, q2⟩
    · rfl
    · have e0 : ((φ (p1 : Nat) : F) = φ (q1 : Nat) ∧ φ (p2 : Nat) + φ (q2 : Nat) = 0) ↔ (p1 = q1 ∧ (p2 + q2) % 5 = 0) := by
        rw [← hF.1.2.1, hF.2.1]
        constructor
        · rintro ⟨h, k⟩; exact ⟨gf_nat hF hp.1 hq.1 h, by omega⟩
        · rintro ⟨h, k⟩; exact ⟨by rw [h], by omega⟩
      show ad (φ A) (some (φ (p1 : Nat), φ (p2 : Nat))) (some (φ (q1 : Nat), φ (q2 : Nat))) = em5 φ (if p1 = q1 ∧ (p2 + q2) % 5 = 0 then none else some (pt5 (p1, p2) (q1, q2) (ln5 A (p1, p2) (q1, q2))))
      by_cases c : p1 = q1 ∧ (p2 + q2) % 5 = 0
      · rw [if_pos c]
        obtain ⟨a, b⟩ := e0.mpr c
        exact ad_inv a b
      · rw [if_neg c]
        rw [ad_gen (fun z => c (e0.mp z))]
        have el : sl (φ A) (φ (p1 : Nat), φ (p2 : Nat)) (φ (q1 : Nat), φ (q2 : Nat)) = φ ((ln5 A (p1, p2) (q1, q2) : Nat) : Int) := by
          unfold sl ln5
          dsimp only
          by_cases d : p1 = q1
          · rw [if_pos d, if_pos (show φ (p1 : Nat) = φ (q1 : Nat) by rw [d])]
            have n5 : ¬ (p2 + q2) % 5 = 0 := fun z => c ⟨d, z⟩
            have pq := cur _ _ rfl rfl d n5
            have pq : p2 = q2 := pq
            have nz : φ ((2 * p2 % 5 : Nat) : Int) ≠ 0 := fun z => by
              have := (hF.2.1 _).mp z
              omega
            have e2 : φ ((2 * p2 % 5 : Nat) : Int) = 2 * φ (p2 : Nat) := by
              rw [gf_modN hF, Int.natCast_mul, hF.1.2.2]
              have := gf_num hF 2
              rw [this]
            have := inv5_ok hF nz
            rw [e2] at this
            show (3 * φ (p1 : Nat) * φ (p1 : Nat) + φ A) * (2 * φ (p2 : Nat))⁻¹ = _
            rw [this, gf_modN hF, Int.natCast_mul, hF.1.2.2, Int.natCast_add, hF.1.2.1, Int.natCast_mul, hF.1.2.2, Int.natCast_mul, hF.1.2.2]
            have := gf_num hF 3
            rw [this]
          · rw [if_neg d, if_neg (fun z => d (gf_nat hF hp.1 hq.1 z))]
            have nz : φ (((q1 + 4 * p1) % 5 : Nat) : Int) ≠ 0 := fun z => by
              have := (hF.2.1 _).mp z
              have h1 : p1 < 5 := hp.1
              have h2 : q1 < 5 := hq.1
              omega
            have e2 : φ (((q1 + 4 * p1) % 5 : Nat) : Int) = φ (q1 : Nat) - φ (p1 : Nat) := by
              rw [gf_modN hF, Int.natCast_add, hF.1.2.1, m5 hF]; grind
            have := inv5_ok hF nz
            rw [e2] at this
            show (φ (q2 : Nat) - φ (p2 : Nat)) * (φ (q1 : Nat) - φ (p1 : Nat))⁻¹ = _
            rw [this, gf_modN hF, Int.natCast_mul, hF.1.2.2, Int.natCast_add, hF.1.2.1, m5 hF]
            grind
        generalize ln5 A (p1, p2) (q1, q2) = l at *
        rw [el]
        have ex : φ (((l * l + 4 * p1 + 4 * q1) % 5 : Nat) : Int) = φ (l : Nat) * φ (l : Nat) - φ (p1 : Nat) - φ (q1 : Nat) := by
          rw [gf_modN hF, Int.natCast_add, hF.1.2.1, Int.natCast_add, hF.1.2.1, m5 hF, m5 hF, Int.natCast_mul, hF.1.2.2]; grind
        have ey : φ (((l * (p1 + 4 * ((l * l + 4 * p1 + 4 * q1) % 5)) + 4 * p2) % 5 : Nat) : Int) = φ (l : Nat) * (φ (p1 : Nat) - (φ (l : Nat) * φ (l : Nat) - φ (p1 : Nat) - φ (q1 : Nat))) - φ (p2 : Nat) := by
          rw [gf_modN hF, Int.natCast_add, hF.1.2.1, m5 hF, Int.natCast_mul, hF.1.2.2, Int.natCast_add, hF.1.2.1, m5 hF, ex]; grind
        exact congrArg some (Prod.ext ex.symm ey.symm)
theorem it5_ok {F : Type} [mFld F] {A B : Nat} {φ : Int → F} (hc : CX F 5 A B φ) {S : EP (φ A) (φ B)} {x y : Nat} (hx : x < 5) (hy : y < 5) (eS : S.1 = some (φ (x : Nat), φ (y : Nat))) : ∀ i, lt5 (it5 A (some (x, y)) i) ∧ (gm (gO hc) ez i S).1 = em5 φ (it5 A (some (x, y)) i)
  | 0 => ⟨trivial, rfl⟩
  | i + 1 => by
    have hF := hc.1
    obtain ⟨l, e⟩ := it5_ok hc hx hy eS i
    refine ⟨add5_lt l ⟨hx, hy⟩, ?_⟩
    show ad (φ A) (gm (gO hc) ez i S).1 S.1 = em5 φ (add5 A (it5 A (some (x, y)) i) (some (x, y)))
    have on := (gm (gO hc) ez i S).2
    have onS := S.2
    rw [eS] at onS
    rw [e] at on
    rw [e, eS, show (some (φ (x : Nat), φ (y : Nat)) : Pt F) = em5 φ (some (x, y)) from rfl]
    refine add5_ok hF A l ⟨hx, hy⟩ (cx2 hc) (fun P Q hP hQ e1 n5 => ?_)
    rw [hP] at on l
    have hQ := Option.some.inj hQ
    subst hQ
    have e1 : P.1 = x := e1
    have n5 : ¬ (P.2 + y) % 5 = 0 := n5
    have l2 : P.2 < 5 := l.2
    have on1 : φ (P.2 : Nat) * φ (P.2 : Nat) = φ (P.1 : Nat) * φ (P.1 : Nat) * φ (P.1 : Nat) + φ A * φ (P.1 : Nat) + φ B := on
    have on2 : φ (y : Nat) * φ (y : Nat) = φ (x : Nat) * φ (x : Nat) * φ (x : Nat) + φ A * φ (x : Nat) + φ B := onS
    rw [e1, ← on2] at on1
    have : (φ (P.2 : Nat) - φ (y : Nat)) * (φ (P.2 : Nat) + φ (y : Nat)) = 0 := by grind
    rcases Lean.Grind.Field.of_mul_eq_zero this with k | k
    · exact gf_nat hF l2 hy (by grind)
    · exfalso
      rw [← hF.1.2.1, hF.2.1] at k
      omega
theorem velu5 {F : Type} [mFld F] {A B : Nat} {φ : Int → F} (hc : CX F 5 A B φ) {S : EP (φ A) (φ B)} {n : Nat} (o : isOrd (gO hc) ez n S) (n12 : n < 12) {a' b' : F}
    (ha : a' = φ A - 5 * rs (n - 1) (fun i => 3 * kx (cx2 hc) (cxn hc) S (i + 1) * kx (cx2 hc) (cxn hc) S (i + 1) + φ A)) (hb : b' = φ B - 7 * rs (n - 1) (fun i => 5 * (kx (cx2 hc) (cxn hc) S (i + 1) * kx (cx2 hc) (cxn hc) S (i + 1) * kx (cx2 hc) (cxn hc) S (i + 1)) + 3 * (φ A * kx (cx2 hc) (cxn hc) S (i + 1)) + 2 * φ B)) : 4 * a' * a' * a' + 27 * b' * b' ≠ 0 := by
  have hc0 := hc
  obtain ⟨hF, hp, -, -, hA, hB, hn⟩ := hc0
  have ab := gO_ab hc
  have h5 : (5 : F) = 0 := (gf_ch hF).2
  have n0 := o.1
  have ea : a' = φ A := by rw [ha, h5]; grind
  rcases eS : S.1 with _ | ⟨X, Y⟩
  · have n1 : n = 1 := by
      have : S = ez := Subtype.ext eS
      rw [this] at o
      exact ord_uniq ab o ⟨by omega, gm_e ab 1, fun i h0 hi => by omega⟩
    subst n1
    have eb : b' = φ B := by rw [hb]; show φ B - 7 * (0 : F) = _; grind
    rw [ea, eb]; exact hn
  · obtain ⟨x, hx, ex⟩ := hF.2.2 X
    obtain ⟨y, hy, ey⟩ := hF.2.2 Y
    rw [ex, ey] at eS
    have it := it5_ok hc hx hy eS
    have onS := S.2
    rw [eS] at onS
    have on2 : φ (y : Nat) * φ (y : Nat) = φ (x : Nat) * φ (x : Nat) * φ (x : Nat) + φ A * φ (x : Nat) + φ B := onS
    have cur : y * y % 5 = (x * x * x + A * x + B) % 5 := by
      rw [← hF.1.2.2, ← hF.1.2.2, ← hF.1.2.2, ← hF.1.2.2, ← hF.1.2.1, ← hF.1.2.1, gf_eq hF] at on2
      have e1 : (y : Int) * y = ((y * y : Nat) : Int) := by push_cast; rfl
      have e2 : (x : Int) * x * x + A * x + B = ((x * x * x + A * x + B : Nat) : Int) := by push_cast; rfl
      rw [e1, e2] at on2
      omega
    have nn : ∀ i, it5 A (some (x, y)) i = none ↔ gm (gO hc) ez i S = ez := fun i => by
      constructor
      · intro z
        apply Subtype.ext
        rw [(it i).2, z]; rfl
      · intro z
        have := (it i).2
        rw [z] at this
        rcases e : it5 A (some (x, y)) i with _ | P
        · rfl
        · rw [e] at this; cases this
    have ksx : ∀ i, 0 < i → i < n → kx (cx2 hc) (cxn hc) S i = φ ((x5 (it5 A (some (x, y)) i) : Nat) : Int) := fun i i0 hi => by
      show xof (gm (gO hc) ez i S).1 = _
      rw [(it i).2]
      rcases e : it5 A (some (x, y)) i with _ | P
      · exact absurd ((nn i).mp e) (o.2.2 i i0 hi)
      · rfl
    have sm : ∀ k, k ≤ n - 1 → φ ((s5 A B (some (x, y)) k : Nat) : Int) = rs k (fun i => 5 * (kx (cx2 hc) (cxn hc) S (i + 1) * kx (cx2 hc) (cxn hc) S (i + 1) * kx (cx2 hc) (cxn hc) S (i + 1)) + 3 * (φ A * kx (cx2 hc) (cxn hc) S (i + 1)) + 2 * φ B) := fun k => by
      induction k with
      | zero => intro _; exact hm_zero hF.1
      | succ k ih =>
        intro hk
        show φ (((s5 A B (some (x, y)) k + (5 * (x5 (it5 A (some (x, y)) (k + 1)) * x5 (it5 A (some (x, y)) (k + 1)) * x5 (it5 A (some (x, y)) (k + 1))) + 3 * (A * x5 (it5 A (some (x, y)) (k + 1))) + 2 * B)) % 5 : Nat) : Int) = rs k _ + _
        have e5 : φ ((5 : Nat) : Int) = 5 := gf_num hF 5
        have e3 : φ ((3 : Nat) : Int) = 3 := gf_num hF 3
        have e2 : φ ((2 : Nat) : Int) = 2 := gf_num hF 2
        rw [gf_modN hF, Int.natCast_add, hF.1.2.1, ih (by omega)]
        refine congrArg (fun z => rs k _ + z) ?_
        dsimp only
        rw [ksx (k + 1) (by omega) (by omega)]
        simp only [Int.natCast_add, Int.natCast_mul, hF.1.2.1, hF.1.2.2, e5, e3, e2]
    have eb : b' = φ ((B + 3 * s5 A B (some (x, y)) (n - 1) : Nat) : Int) := by
      have e3 : φ ((3 : Nat) : Int) = 3 := gf_num hF 3
      rw [hb, ← sm (n - 1) (Nat.le_refl _), Int.natCast_add, hF.1.2.1, Int.natCast_mul, hF.1.2.2, e3]
      grind
    have key := ok5_ok
    unfold ok5 at key
    rw [List.all_eq_true] at key
    have key := key A (List.mem_range.mpr hA)
    rw [List.all_eq_true] at key
    have key := key B (List.mem_range.mpr hB)
    rw [Bool.or_eq_true] at key
    intro z
    rcases key with k | key
    · refine hn ?_
      have : φ ((4 * A * A * A + 27 * B * B : Nat) : Int) = 0 := (hF.2.1 _).mpr (by have := beq_iff_eq.mp k; omega)
      rw [← this]
      have e4 : φ ((4 : Nat) : Int) = 4 := gf_num hF 4
      have e27 : φ ((27 : Nat) : Int) = 27 := gf_num hF 27
      simp only [Int.natCast_add, Int.natCast_mul, hF.1.2.1, hF.1.2.2, e4, e27]
    · rw [List.all_eq_true] at key
      have key := key x (List.mem_range.mpr hx)
      rw [List.all_eq_true] at key
      have key := key y (List.mem_range.mpr hy)
      rw [Bool.or_eq_true] at key
      rcases key with k | key
      · rw [beq_iff_eq.mpr cur] at k; cases k
      · rw [List.all_eq_true] at key
        have key := key n (List.mem_range.mpr n12)
        rw [Bool.or_eq_true, Bool.or_eq_true] at key
        rcases key with (k | k) | k
        · have := beq_iff_eq.mp k; omega
        · rw [Bool.not_eq_true', Bool.and_eq_false_iff] at k
          rcases k with k | k
          · rw [(nn n).mpr o.2.1] at k; cases k
          · refine absurd ?_ (Bool.eq_false_iff.mp k)
            rw [List.all_eq_true]
            intro i hi
            have hi := List.mem_range.mp hi
            rw [Bool.or_eq_true]
            by_cases i0 : i = 0
            · left; exact beq_iff_eq.mpr i0
            · right
              rcases e : it5 A (some (x, y)) i with _ | P
              · exact absurd ((nn i).mp e) (o.2.2 i (by omega) hi)
              · rfl
        · rw [Bool.not_eq_true'] at k
          refine absurd (beq_iff_eq.mpr ?_) (Bool.eq_false_iff.mp k)
          have e4 : φ ((4 : Nat) : Int) = 4 := gf_num hF 4
          have e27 : φ ((27 : Nat) : Int) = 27 := gf_num hF 27
          have : φ ((4 * A * A * A + 27 * (B + 3 * s5 A B (some (x, y)) (n - 1)) * (B + 3 * s5 A B (some (x, y)) (n - 1)) : Nat) : Int) = 0 := by
            rw [← z, ea, eb]
            generalize B + 3 * s5 A B (some (x, y)) (n - 1) = w
            simp only [Int.natCast_add, Int.natCast_mul, hF.1.2.1, hF.1.2.2, e4, e27]
          have := (hF.2.1 _).mp this
          omega
