noncomputable def yof {K : Type} [mFld K] : Pt K → K
  | none => 0
  | some Q => Q.2
/-- n is the order of x -/
def isOrd {G : Type} (op : G → G → G) (e : G) (n : Nat) (x : G) : Prop := 0 < n ∧ gm op e n x = e ∧ ∀ i, 0 < i → i < n → gm op e i x ≠ e
noncomputable def kx {F : Type} [mFld F] {a b : F} (h2 : (2 : F) ≠ 0) (hns : 4 * a * a * a + 27 * b * b ≠ 0) (S : EP a b) (i : Nat) : F := xof (gm (eo h2 hns) ez i S).1
noncomputable def ky {F : Type} [mFld F] {a b : F} (h2 : (2 : F) ≠ 0) (hns : 4 * a * a * a + 27 * b * b ≠ 0) (S : EP a b) (i : Nat) : F := yof (gm (eo h2 hns) ez i S).1
noncomputable def kG {F : Type} [mFld F] {a b : F} (h2 : (2 : F) ≠ 0) (hns : 4 * a * a * a + 27 * b * b ≠ 0) (S : EP a b) (n i : Nat) : F := if 2 * (i + 1) = n then 3 * kx h2 hns S (i + 1) * kx h2 hns S (i + 1) + a else (3 * kx h2 hns S (i + 1) * kx h2 hns S (i + 1) + a) + (3 * kx h2 hns S (i + 1) * kx h2 hns S (i + 1) + a)
noncomputable def kV {F : Type} [mFld F] {a b : F} (h2 : (2 : F) ≠ 0) (hns : 4 * a * a * a + 27 * b * b ≠ 0) (S : EP a b) (i : Nat) : F := 4 * (ky h2 hns S (i + 1) * ky h2 hns S (i + 1))
theorem k_some {F : Type} [mFld F] {a b : F} {h2 : (2 : F) ≠ 0} {hns : 4 * a * a * a + 27 * b * b ≠ 0} {S : EP a b} {n : Nat} (o : isOrd (eo h2 hns) ez n S) {i : Nat} (h0 : 0 < i) (hi : i < n) : (gm (eo h2 hns) ez i S).1 = some (kx h2 hns S i, ky h2 hns S i) := by
  unfold kx ky
  cases k : (gm (eo h2 hns) ez i S).1 with
  | none => exact absurd (Subtype.ext k) (o.2.2 i h0 hi)
  | some P => rfl
theorem k_on {F : Type} [mFld F] {a b : F} {h2 : (2 : F) ≠ 0} {hns : 4 * a * a * a + 27 * b * b ≠ 0} {S : EP a b} {n : Nat} (o : isOrd (eo h2 hns) ez n S) {i : Nat} (h0 : 0 < i) (hi : i < n) : ky h2 hns S i * ky h2 hns S i = kx h2 hns S i * kx h2 hns S i * kx h2 hns S i + a * kx h2 hns S i + b := by
  have := (gm (eo h2 hns) ez i S).2
  rw [k_some o h0 hi] at this; exact this
theorem k_neg {F : Type} [mFld F] {a b : F} {h2 : (2 : F) ≠ 0} {hns : 4 * a * a * a + 27 * b * b ≠ 0} {S : EP a b} {n : Nat} (o : isOrd (eo h2 hns) ez n S) {i : Nat} (hi : i ≤ n) : gm (eo h2 hns) ez (n - i) S = en (gm (eo h2 hns) ez i S) := by
  have ab := ep_ab h2 hns
  refine ab_ivu ab ?_
  rw [← gm_add ab, show i + (n - i) = n by omega, o.2.1]
theorem k_negx {F : Type} [mFld F] {a b : F} {h2 : (2 : F) ≠ 0} {hns : 4 * a * a * a + 27 * b * b ≠ 0} {S : EP a b} {n : Nat} (o : isOrd (eo h2 hns) ez n S) {i : Nat} (h0 : 0 < i) (hi : i < n) : kx h2 hns S (n - i) = kx h2 hns S i ∧ ky h2 hns S (n - i) = - ky h2 hns S i := by
  have e := k_neg o (i := i) (by omega)
  have e2 : (gm (eo h2 hns) ez (n - i) S).1 = ng (gm (eo h2 hns) ez i S).1 := by rw [e]; rfl
  rw [k_some o h0 hi, k_some o (i := n - i) (by omega) (by omega)] at e2
  have e3 := Option.some.inj (show some (kx h2 hns S (n - i), ky h2 hns S (n - i)) = some (kx h2 hns S i, - ky h2 hns S i) from e2)
  exact ⟨congrArg Prod.fst e3, congrArg Prod.snd e3⟩
theorem gm_sub {G : Type} {op : G → G → G} {e : G} {iv : G → G} (h : isAb op e iv) {x : G} {i j : Nat} (hij : i ≤ j) (k : gm op e i x = gm op e j x) : gm op e (j - i) x = e := by
  refine ab_canc h (x := gm op e i x) ?_
  rw [← gm_add h, show i + (j - i) = j by omega, h.2.2.1, k]
theorem ord_inj {G : Type} {op : G → G → G} {e : G} {iv : G → G} (h : isAb op e iv) {x : G} {n : Nat} (o : isOrd op e n x) {i j : Nat} (hi : i < n) (hj : j < n) (k : gm op e i x = gm op e j x) : i = j := by
  by_cases q : i ≤ j
  · have := gm_sub h q k
    exact Classical.byContradiction (fun ne => o.2.2 (j - i) (by omega) (by omega) this)
  · have := gm_sub h (i := j) (j := i) (by omega) k.symm
    exact Classical.byContradiction (fun ne => o.2.2 (i - j) (by omega) (by omega) this)
/-- different places up to n / 2 have different x -/
theorem k_dist {F : Type} [mFld F] {a b : F} {h2 : (2 : F) ≠ 0} {hns : 4 * a * a * a + 27 * b * b ≠ 0} {S : EP a b} {n : Nat} (o : isOrd (eo h2 hns) ez n S) {i j : Nat} (h0 : 0 < i) (h1 : 0 < j) (hi : 2 * i ≤ n) (hj : 2 * j ≤ n) (e : kx h2 hns S i = kx h2 hns S j) : i = j := by
  have ab := ep_ab h2 hns
  have si := k_some o h0 (by omega)
  have sj := k_some o h1 (by omega)
  have oi := (gm (eo h2 hns) ez i S).2
  have oj := (gm (eo h2 hns) ez j S).2
  rw [si] at oi; rw [sj] at oj
  rcases x_same oi oj e with q | q
  · exact ord_inj ab o (by omega) (by omega) (Subtype.ext (by rw [si, sj, q]))
  · have e1 : gm (eo h2 hns) ez i S = en (gm (eo h2 hns) ez j S) := Subtype.ext (by show _ = ng _; rw [si, sj, q])
    rw [← k_neg o (by omega)] at e1
    have := ord_inj ab o (i := i) (j := n - j) (by omega) (by omega) e1
    omega
theorem k_y0 {F : Type} [mFld F] {a b : F} {h2 : (2 : F) ≠ 0} {hns : 4 * a * a * a + 27 * b * b ≠ 0} {S : EP a b} {n : Nat} (o : isOrd (eo h2 hns) ez n S) {i : Nat} (h0 : 0 < i) (hi : i < n) : ky h2 hns S i = 0 ↔ 2 * i = n := by
  have ab := ep_ab h2 hns
  obtain ⟨n1, n2⟩ := k_negx o h0 hi
  refine ⟨fun z => ?_, fun z => ?_⟩
  · have : gm (eo h2 hns) ez i S = gm (eo h2 hns) ez (n - i) S := Subtype.ext (by rw [k_some o h0 hi, k_some o (i := n - i) (by omega) (by omega), n1, n2, z, show -(0 : F) = 0 by grind])
    have := ord_inj ab o hi (by omega) this
    omega
  · rw [show n - i = i by omega] at n2
    have : 2 * ky h2 hns S i = 0 := by grind
    rcases Lean.Grind.Field.of_mul_eq_zero this with w | w
    · exact absurd w h2
    · exact w
theorem g_ne {F : Type} [mFld F] {a b x : F} (hns : 4 * a * a * a + 27 * b * b ≠ 0) (hx : 0 = x * x * x + a * x + b) : 3 * x * x + a ≠ 0 := fun k => hns (by grind)
theorem rs_2 {F : Type} [mRng F] : ∀ n : Nat, rs n (fun _ => (2 : F)) = OfNat.ofNat (2 * n)
  | 0 => rfl
  | n + 1 => by
    show rs n (fun _ => (2 : F)) + 2 = OfNat.ofNat (2 * n + 1 + 1)
    rw [rs_2 n, Lean.Grind.Semiring.ofNat_succ (α := F) (2 * n + 1), Lean.Grind.Semiring.ofNat_succ (α := F) (2 * n)]; grind
theorem k_mu {F : Type} [mFld F] {a b : F} {h2 : (2 : F) ≠ 0} {hns : 4 * a * a * a + 27 * b * b ≠ 0} {S : EP a b} {n : Nat} (o : isOrd (eo h2 hns) ez n S) : 1 + rs (n / 2) (mu (kV h2 hns S)) = OfNat.ofNat (α := F) n := by
  have m : ∀ i, 2 * (i + 1) ≤ n → mu (kV h2 hns S) i = if 2 * (i + 1) = n then 1 else 2 := fun i hi => by
    have y0 := k_y0 o (i := i + 1) (by omega) (by omega)
    unfold mu
    by_cases q : 2 * (i + 1) = n
    · rw [if_pos q, if_pos (show kV h2 hns S i = 0 by unfold kV; rw [y0.mpr q]; grind)]
    · rw [if_neg q, if_neg (show ¬ kV h2 hns S i = 0 from fun z => by
        unfold kV at z
        have : 2 * (2 * (ky h2 hns S (i + 1) * ky h2 hns S (i + 1))) = 0 := by rw [← z]; grind
        rcases Lean.Grind.Field.of_mul_eq_zero this with w | w
        · exact h2 w
        · rcases Lean.Grind.Field.of_mul_eq_zero w with w | w
          · exact h2 w
          · rcases Lean.Grind.Field.of_mul_eq_zero w with w | w <;> exact q (y0.mp w))]
  have n0 := o.1
  rcases (show n % 2 = 1 ∨ n % 2 = 0 by omega) with q | q
  · obtain ⟨k, rfl⟩ : ∃ k, n = 2 * k + 1 := ⟨n / 2, by omega⟩
    rw [show (2 * k + 1) / 2 = k by omega, rs_ext (g := fun _ => (2 : F)) (fun i hi => by rw [m i (by omega), if_neg (by omega)]), rs_2, Lean.Grind.Semiring.ofNat_succ (α := F) (2 * k)]; grind
  · obtain ⟨k, rfl⟩ : ∃ k, n = 2 * (k + 1) := ⟨n / 2 - 1, by omega⟩
    rw [show (2 * (k + 1)) / 2 = k + 1 by omega]
    show 1 + (rs k (mu (kV h2 hns S)) + mu (kV h2 hns S) k) = OfNat.ofNat (2 * k + 1 + 1)
    rw [m k (by omega), if_pos rfl, rs_ext (g := fun _ => (2 : F)) (fun i hi => by rw [m i (by omega), if_neg (by omega)]), rs_2, Lean.Grind.Semiring.ofNat_succ (α := F) (2 * k + 1), Lean.Grind.Semiring.ofNat_succ (α := F) (2 * k)]; grind
theorem rl_T1 {F : Type} [mRng F] {x a b : F} (on : 0 * 0 = x * x * x + a * x + b) : (3 * x * x + a) * x + 4 * (0 * 0) = 5 * (x * x * x) + 3 * (a * x) + 2 * b := by grind
theorem rl_T2 {F : Type} [mRng F] (x a b : F) : ((3 * x * x + a) + (3 * x * x + a)) * x + 4 * (x * x * x + a * x + b) = (5 * (x * x * x) + 3 * (a * x) + 2 * b) + (5 * (x * x * x) + 3 * (a * x) + 2 * b) := by grind
/-- the sums over all the kernel's points, as the document says them -/
theorem k_T {F : Type} [mFld F] {a b : F} {h2 : (2 : F) ≠ 0} {hns : 4 * a * a * a + 27 * b * b ≠ 0} {S : EP a b} {n : Nat} (o : isOrd (eo h2 hns) ez n S) :
    vT1 (kG h2 hns S n) (n / 2) = rs (n - 1) (fun i => 3 * kx h2 hns S (i + 1) * kx h2 hns S (i + 1) + a) ∧
    vT2 (fun i => kx h2 hns S (i + 1)) (kG h2 hns S n) (kV h2 hns S) (n / 2) = rs (n - 1) (fun i => 5 * (kx h2 hns S (i + 1) * kx h2 hns S (i + 1) * kx h2 hns S (i + 1)) + 3 * (a * kx h2 hns S (i + 1)) + 2 * b) := by
  have n0 := o.1
  unfold vT1 vT2
  have key : ∀ f : F → F, rs (n - 1) (fun i => f (kx h2 hns S (i + 1))) = rs (n / 2) (fun i => if 2 * (i + 1) = n then f (kx h2 hns S (i + 1)) else f (kx h2 hns S (i + 1)) + f (kx h2 hns S (i + 1))) := fun f => by
    rcases (show n % 2 = 1 ∨ n % 2 = 0 by omega) with q | q
    · obtain ⟨k, rfl⟩ : ∃ k, n = 2 * k + 1 := ⟨n / 2, by omega⟩
      rw [show (2 * k + 1) / 2 = k by omega, show 2 * k + 1 - 1 = 2 * k by omega, rs_fold0]
      refine rs_ext (fun i hi => ?_)
      rw [if_neg (by omega), show 2 * k - 1 - i + 1 = (2 * k + 1) - (i + 1) by omega, (k_negx o (i := i + 1) (by omega) (by omega)).1]
    · obtain ⟨k, rfl⟩ : ∃ k, n = 2 * (k + 1) := ⟨n / 2 - 1, by omega⟩
      rw [show (2 * (k + 1)) / 2 = k + 1 by omega, show 2 * (k + 1) - 1 = 2 * k + 1 by omega, rs_fold1]
      show _ = rs k _ + (if 2 * (k + 1) = 2 * (k + 1) then _ else _)
      rw [if_pos rfl]
      congr 1
      refine rs_ext (fun i hi => ?_)
      rw [if_neg (by omega), show 2 * k - i + 1 = (2 * (k + 1)) - (i + 1) by omega, (k_negx o (i := i + 1) (by omega) (by omega)).1]
  refine ⟨?_, ?_⟩
  · rw [key (fun x => 3 * x * x + a)]
    exact rs_ext (fun i hi => by unfold kG; rfl)
  · rw [key (fun x => 5 * (x * x * x) + 3 * (a * x) + 2 * b)]
    refine rs_ext (fun i hi => ?_)
    have on := k_on o (i := i + 1) (by omega) (by omega)
    unfold kG kV
    by_cases q : 2 * (i + 1) = n
    · rw [if_pos q, if_pos q]
      have y0 := (k_y0 o (i := i + 1) (by omega) (by omega)).mpr q
      rw [y0] at on ⊢
      exact rl_T1 on
    · rw [if_neg q, if_neg q, on]
      exact rl_T2 _ _ _
