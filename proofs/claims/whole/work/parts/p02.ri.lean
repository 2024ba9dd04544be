/-! what holds between the class's curves and the reference's -/
def cE (P A B : Nat) (ff kk oo q ii ot mf fi se : Int32) : va_E := .inr (0, [.int (nI P), .int (nI A), .int (nI B), .int ff, .int kk, .int oo, .int q, .int ii, .int ot, .int mf, .int fi, .int se])
def CK (P A B : Nat) (q ii ot mf fi se : Int32) : Prop := (q = 0 ∨ q = nI (cnt P A B P)) ∧ (ii = 0 ∨ IOc P A B ii ot) ∧ MKc P A B ii ot mf fi se
def CC (F : Nat → va_E) (ad P A B : Nat) (ff kk oo : Int32) : Prop := ∃ q ii ot mf fi se, F ad = cE P A B ff kk oo q ii ot mf fi se ∧ CK P A B q ii ot mf fi se
def CN (P A B : Nat) : Prop := isp P ∧ 5 ≤ P ∧ P ≤ 10007 ∧ A < P ∧ B < P ∧ disc P A B ≠ 0
def RI (n : Nat) (hd : Nat → Option Nat) (Lp : List Nat) (Fp : Nat → va_E) (ps as bs fr kp ko : Nat → Int32) (ad PP AA BB : Nat → Nat) (ff kk oo : Nat → Int32) : Prop := n ≤ 24 ∧ (∀ i j, i < n → j < n → ad i = ad j → i = j) ∧ ∀ i, i < n → hd i = some (ad i) ∧ ad i ∈ Lp ∧ CC Fp (ad i) (PP i) (AA i) (BB i) (ff i) (kk i) (oo i) ∧ ps i = nI (PP i) ∧ as i = nI (AA i) ∧ bs i = nI (BB i) ∧ CN (PP i) (AA i) (BB i) ∧ ((oo i = 0 ∧ fr i = -1) ∨ ∃ j o, j < i ∧ ff i = nI j ∧ fr i = nI j ∧ kp i = kk i ∧ ko i = oo i ∧ oo i = nI o ∧ 0 < o ∧ o ≤ 400 ∧ isKo (PP j) (AA j) (BB j) (kk i) o)
def RW (sz : Int32) (hd : Nat → Option Nat) (pr : Int32) (gl : Nat → Int32) (re : Int32) (sa en : Nat → Int32) (p a b rt pm cu : Int32) (f g pts ah ps as bs fr kp ko : Nat → Int32) (Lp : List Nat) (Fp : Nat → va_E) : Prop := ∃ n, sz = nI n ∧ cu = nI n ∧ (∃ ad PP AA BB ff kk oo, RI n hd Lp Fp ps as bs fr kp ko ad PP AA BB ff kk oo) ∧ tabC pr gl ∧ SD re sa en ∧ CUR p a b rt pm f g pts ah
theorem RW.st {sz : Int32} {hd : Nat → Option Nat} {pr : Int32} {gl : Nat → Int32} {re : Int32} {sa en : Nat → Int32} {p a b rt pm cu : Int32} {f g pts ah ps as bs fr kp ko : Nat → Int32} {Lp : List Nat} {Fp : Nat → va_E} (h : RW sz hd pr gl re sa en p a b rt pm cu f g pts ah ps as bs fr kp ko Lp Fp) : ST cu ps as bs := by
  obtain ⟨n, -, ec, ⟨ad, PP, AA, BB, ff, kk, oo, n24, -, hi⟩, -⟩ := h
  refine ⟨n, n24, ec, fun i hin => ?_⟩
  obtain ⟨-, -, -, e1, e2, e3, ⟨c1, c2, c3, c4, c5, -⟩, -⟩ := hi i hin
  exact ⟨PP i, AA i, BB i, c1, c2, c3, c4, c5, e1, e2, e3⟩
/-- other tables, another curve at which the reference stands -/
theorem RW.cur {sz : Int32} {hd : Nat → Option Nat} {pr : Int32} {gl : Nat → Int32} {re : Int32} {sa en : Nat → Int32} {p a b rt pm cu : Int32} {f g pts ah ps as bs fr kp ko : Nat → Int32} {Lp : List Nat} {Fp : Nat → va_E} (h : RW sz hd pr gl re sa en p a b rt pm cu f g pts ah ps as bs fr kp ko Lp Fp) {pr' : Int32} {gl' : Nat → Int32} {re' : Int32} {sa' en' : Nat → Int32} {p' a' b' rt' pm' : Int32} {f' g' pts' ah' : Nat → Int32} (t : tabC pr' gl') (s : SD re' sa' en') (c : CUR p' a' b' rt' pm' f' g' pts' ah') : RW sz hd pr' gl' re' sa' en' p' a' b' rt' pm' cu f' g' pts' ah' ps as bs fr kp ko Lp Fp := by
  obtain ⟨n, e1, e2, hR, -⟩ := h
  exact ⟨n, e1, e2, hR, t, s, c⟩
theorem RW.tab {sz : Int32} {hd : Nat → Option Nat} {pr : Int32} {gl : Nat → Int32} {re : Int32} {sa en : Nat → Int32} {p a b rt pm cu : Int32} {f g pts ah ps as bs fr kp ko : Nat → Int32} {Lp : List Nat} {Fp : Nat → va_E} (h : RW sz hd pr gl re sa en p a b rt pm cu f g pts ah ps as bs fr kp ko Lp Fp) : tabC pr gl ∧ SD re sa en ∧ CUR p a b rt pm f g pts ah := by
  obtain ⟨n, -, -, -, t, s, c⟩ := h
  exact ⟨t, s, c⟩
theorem RI.up {n : Nat} {hd : Nat → Option Nat} {Lp : List Nat} {Fp : Nat → va_E} {ps as bs fr kp ko : Nat → Int32} {ad PP AA BB : Nat → Nat} {ff kk oo : Nat → Int32} (h : RI n hd Lp Fp ps as bs fr kp ko ad PP AA BB ff kk oo) {i : Nat} (hi : i < n) {q ii ot mf fi se : Int32} (k : CK (PP i) (AA i) (BB i) q ii ot mf fi se) : RI n hd (ad i :: Lp.erase (ad i)) (va_up Fp (ad i) (cE (PP i) (AA i) (BB i) (ff i) (kk i) (oo i) q ii ot mf fi se)) ps as bs fr kp ko ad PP AA BB ff kk oo := by
  obtain ⟨n24, inj, hall⟩ := h
  refine ⟨n24, inj, fun j hj => ?_⟩
  obtain ⟨z1, z2, z3, z4⟩ := hall j hj
  refine ⟨z1, ?_, ?_, z4⟩
  · by_cases e : ad j = ad i
    · rw [e]; exact List.mem_cons_self
    · exact List.mem_cons_of_mem _ ((List.mem_erase_of_ne e).mpr z2)
  · by_cases e : ad j = ad i
    · have := inj j i hj hi e
      subst this
      exact ⟨q, ii, ot, mf, fi, se, va_up_self _ _ _, k⟩
    · obtain ⟨q', ii', ot', mf', fi', se', e1, k1⟩ := z3
      exact ⟨q', ii', ot', mf', fi', se', by rw [va_up_ne _ _ e]; exact e1, k1⟩
theorem atC (N : Nat) {n : Nat} (n24 : n ≤ 24) {hd : Nat → Option Nat} (c : Int32) : (mX5_at N (nI n) hd c = some none ∧ inF c.toInt64 0 ((nI n - 1).toInt64) = 0) ∨ ∃ i, i < n ∧ c = nI i ∧ mX5_at N (nI n) hd c = some (hd i) ∧ inF c.toInt64 0 ((nI n - 1).toInt64) = 1 := by
  unfold mX5_at
  by_cases k : inF c.toInt64 0 ((nI n - 1).toInt64) = 0
  · left
    refine ⟨?_, k⟩
    by_cases n0 : n = 0
    · subst n0
      by_cases c0 : c < 0
      · rw [if_pos c0]
      · rw [if_neg c0, if_pos (show nI 0 ≤ c from Int32.not_lt.mp c0)]
    · rw [in_ix, sub1_toInt (n := n) (by omega) (by omega), show (0 : Int64).toInt = 0 by decide] at k
      by_cases c0 : c < 0
      · rw [if_pos c0]
      · have := Int32.le_iff_toInt_le.mp (Int32.not_lt.mp c0)
        rw [show (0 : Int32).toInt = 0 by decide] at this
        rw [if_neg c0, if_pos (Int32.le_iff_toInt_le.mpr (by rw [nI_toInt (by omega)]; omega))]
  · right
    have n0 : 1 ≤ n := by
      rcases Nat.eq_zero_or_pos n with z | z
      · subst z
        exfalso
        rw [in_ix, show (0 : Int64).toInt = 0 by decide, show ((nI 0 - 1).toInt64).toInt = -1 by decide] at k
        omega
      · exact z
    have kk : inF c.toInt64 0 ((nI n - 1).toInt64) = 1 := by
      unfold inF at k ⊢
      split
      · rfl
      · rename_i w; rw [if_neg w] at k; exact absurd rfl k
    rw [in_ix, sub1_toInt (n := n) n0 (by omega), show (0 : Int64).toInt = 0 by decide] at k
    have w := Classical.not_not.mp k
    have ec : c = nI c.toInt.toNat := i32_toNat (by omega)
    have lt : c.toInt.toNat < n := by omega
    generalize c.toInt.toNat = i at *
    subst ec
    refine ⟨i, lt, rfl, ?_, kk⟩
    rw [if_neg (show ¬ nI i < 0 from nI_nlt (b := 0) (by omega) (by omega)), if_neg (nI_ge lt (by omega)), if_neg (show ¬ 24 ≤ nI i from nI_ge (b := 24) (by omega) (by omega)), if_neg (ix_nI (by omega) (by omega)), nI_clamp (by omega)]
/-- the reference's look at curve i -/
theorem hasI {N : Nat} (hN : 2 ^ 64 ≤ N) {n : Nat} {hd : Nat → Option Nat} {Lp : List Nat} {Fp : Nat → va_E} {ps as bs fr kp ko : Nat → Int32} {ad PP AA BB : Nat → Nat} {ff kk oo : Nat → Int32} (h : RI n hd Lp Fp ps as bs fr kp ko ad PP AA BB ff kk oo) {p a b rt pm : Int32} {f g pts ah : Nat → Int32} (hC : CUR p a b rt pm f g pts ah) {i : Nat} (hi : i < n) (k1 : inF (nI i).toInt64 0 ((nI n - 1).toInt64) = 1) : ∃ pm1 f1 g1, mX6_has N p a b rt pm (nI n) f g ps as bs (nI i) = some (1, nI (PP i), nI (AA i), nI (BB i), nI (PP i), pm1, f1, g1) ∧ CU (PP i) (AA i) (BB i) (nI (PP i)) (nI (AA i)) (nI (BB i)) (nI (PP i)) pm1 f1 g1 pts ah := by
  obtain ⟨n24, -, hall⟩ := h
  obtain ⟨-, -, -, e1, e2, e3, ⟨c1, c2, c3, c4, c5, -⟩, -⟩ := hall i hi
  obtain ⟨pm1, f1, g1, et, hU⟩ := take_spec N (by omega) hC c1 c2 c3 c4 c5
  have hix : ¬ (nI i < 0 ∨ 24 ≤ (nI i).toNatClampNeg) := ix_nI (by omega) (by omega)
  refine ⟨pm1, f1, g1, ?_, hU⟩
  unfold mX6_has
  rw [inE, k1]; simp only [Option.bind_some]
  rw [if_neg (show ¬ (1 : Int32) = 0 by decide)]
  dsimp only [mi_let]
  rw [if_neg hix, if_neg hix, if_neg hix, nI_clamp (by omega), e1, e2, e3, et]
  rfl
/-- a call's curve, on both sides -/
theorem RW.look {N : Nat} (hN : 2 ^ 64 ≤ N) {sz : Int32} {hd : Nat → Option Nat} {pr : Int32} {gl : Nat → Int32} {re : Int32} {sa en : Nat → Int32} {p a b rt pm cu : Int32} {f g pts ah ps as bs fr kp ko : Nat → Int32} {Lp : List Nat} {Fp : Nat → va_E} (h : RW sz hd pr gl re sa en p a b rt pm cu f g pts ah ps as bs fr kp ko Lp Fp) (c : Int32) :
    (mX5_at N sz hd c = some none ∧ mX6_in N c.toInt64 0 ((cu - 1).toInt64) = some 0 ∧ mX6_has N p a b rt pm cu f g ps as bs c = some (0, p, a, b, rt, pm, f, g)) ∨
    ∃ y0 P A B ff kk oo q ii ot mf fi se pm1 f1 g1, y0 ∈ Lp ∧ mX5_at N sz hd c = some (some y0) ∧ Fp y0 = cE P A B ff kk oo q ii ot mf fi se ∧ CK P A B q ii ot mf fi se ∧ disc P A B ≠ 0 ∧ mX6_has N p a b rt pm cu f g ps as bs c = some (1, nI P, nI A, nI B, nI P, pm1, f1, g1) ∧ CU P A B (nI P) (nI A) (nI B) (nI P) pm1 f1 g1 pts ah ∧ (∃ i9, i9 < 24 ∧ c = nI i9 ∧ ps i9 = nI P ∧ as i9 = nI A ∧ bs i9 = nI B) ∧ ∀ {q' ii' ot' mf' fi' se' : Int32}, CK P A B q' ii' ot' mf' fi' se' → RW sz hd pr gl re sa en p a b rt pm cu f g pts ah ps as bs fr kp ko (y0 :: Lp.erase y0) (va_up Fp y0 (cE P A B ff kk oo q' ii' ot' mf' fi' se')) := by
  obtain ⟨n, e1, e2, ⟨ad, PP, AA, BB, ff, kk, oo, hR⟩, t, s, hC⟩ := h
  subst e1 e2
  rcases atC N hR.1 (hd := hd) c with ⟨k, z⟩ | ⟨i, hi, ec, k, z⟩
  · left
    refine ⟨k, by rw [inE, z], ?_⟩
    unfold mX6_has
    rw [inE, z]; rfl
  · right
    subst ec
    obtain ⟨pm1, f1, g1, hh, hU⟩ := hasI hN hR hC hi z
    obtain ⟨w1, w2, ⟨q, ii, ot, mf, fi, se, w3, w4⟩, v1, v2, v3, w5, -⟩ := hR.2.2 i hi
    have n24 := hR.1
    refine ⟨ad i, PP i, AA i, BB i, ff i, kk i, oo i, q, ii, ot, mf, fi, se, pm1, f1, g1, w2, by rw [k, w1], w3, w4, w5.2.2.2.2.2, hh, hU, ⟨i, by omega, rfl, v1, v2, v3⟩, fun k' => ⟨n, rfl, rfl, ⟨ad, PP, AA, BB, ff, kk, oo, hR.up hi k'⟩, t, s, hC⟩⟩
/-- a curve that is made -/
theorem RW.push {sz : Int32} {hd : Nat → Option Nat} {pr : Int32} {gl : Nat → Int32} {re : Int32} {sa en : Nat → Int32} {p a b rt pm cu : Int32} {f g pts ah ps as bs fr kp ko : Nat → Int32} {Lp : List Nat} {Fp : Nat → va_E} (h : RW sz hd pr gl re sa en p a b rt pm cu f g pts ah ps as bs fr kp ko Lp Fp) {n : Nat} (en0 : sz = nI n) (n24 : n < 24) {y : Nat} (hy : y ∉ Lp) {P A B : Nat} (hN : CN P A B) : RW (nI (n + 1)) (va_up hd sz.toNatClampNeg (some y)) pr gl re sa en p a b rt pm (nI (n + 1)) f g pts ah (upd ps n (nI P)) (upd as n (nI A)) (upd bs n (nI B)) (upd fr n (-1)) kp ko (y :: Lp) (va_up Fp y (cE P A B 0 0 0 0 0 0 0 (-1) (-1))) := by
  obtain ⟨n', e1, e2, ⟨ad, PP, AA, BB, ff, kk, oo, m24, inj, hall⟩, t, s, hC⟩ := h
  have : n' = n := (nI_eq (by omega) (by omega)).mp (e1.symm.trans en0)
  subst this
  have adn : ∀ i, i < n' → ad i ≠ y := fun i hi e => hy (by rw [← e]; exact (hall i hi).2.1)
  refine ⟨n' + 1, rfl, rfl, ⟨fun i => if i = n' then y else ad i, fun i => if i = n' then P else PP i, fun i => if i = n' then A else AA i, fun i => if i = n' then B else BB i, fun i => if i = n' then 0 else ff i, fun i => if i = n' then 0 else kk i, fun i => if i = n' then 0 else oo i, by omega, fun i j hi hj e => ?_, fun i hi => ?_⟩, t, s, hC⟩
  · dsimp only at e
    by_cases ei : i = n'
    · by_cases ej : j = n'
      · omega
      · rw [if_pos ei, if_neg ej] at e
        exact absurd e.symm (adn j (by omega))
    · by_cases ej : j = n'
      · rw [if_neg ei, if_pos ej] at e
        exact absurd e (adn i (by omega))
      · rw [if_neg ei, if_neg ej] at e
        exact inj i j (by omega) (by omega) e
  · rw [en0, nI_clamp (by omega)]
    by_cases ei : i = n'
    · subst ei
      simp only [if_pos (show i = i from rfl)]
      refine ⟨va_up_self _ _ _, List.mem_cons_self, ⟨0, 0, 0, 0, -1, -1, va_up_self _ _ _, Or.inl rfl, Or.inl rfl, Or.inl ⟨rfl, rfl, rfl⟩⟩, if_pos rfl, if_pos rfl, if_pos rfl, hN, Or.inl ⟨rfl, if_pos rfl⟩⟩
    · obtain ⟨z1, z2, ⟨q, ii, ot, mf, fi, se, z3, z3'⟩, z4, z5, z6, z7, z8⟩ := hall i (by omega)
      simp only [if_neg ei]
      refine ⟨by rw [va_up_ne _ _ ei]; exact z1, List.mem_cons_of_mem _ z2, ⟨q, ii, ot, mf, fi, se, by rw [va_up_ne _ _ (adn i (by omega))]; exact z3, z3'⟩, ?_, ?_, ?_, z7, ?_⟩
      · unfold upd; rw [if_neg ei]; exact z4
      · unfold upd; rw [if_neg ei]; exact z5
      · unfold upd; rw [if_neg ei]; exact z6
      · rcases z8 with ⟨k1, k2⟩ | ⟨j, o, hj, k1, k2, k3, k4, k5, k6, k7, k8⟩
        · exact Or.inl ⟨k1, by unfold upd; rw [if_neg ei]; exact k2⟩
        · refine Or.inr ⟨j, o, hj, k1, by unfold upd; rw [if_neg ei]; exact k2, k3, k4, k5, k6, k7, ?_⟩
          have ej : ¬ j = n' := by omega
          rw [if_neg ej, if_neg ej, if_neg ej]; exact k8
theorem RW.pushK {sz : Int32} {hd : Nat → Option Nat} {pr : Int32} {gl : Nat → Int32} {re : Int32} {sa en : Nat → Int32} {p a b rt pm cu : Int32} {f g pts ah ps as bs fr kp ko : Nat → Int32} {Lp : List Nat} {Fp : Nat → va_E} {N : Nat} (h : RW sz hd pr gl re sa en p a b rt pm cu f g pts ah ps as bs fr kp ko Lp Fp) {n : Nat} (en0 : sz = nI n) (n24 : n < 24) {y : Nat} (hy : y ∉ Lp) {P A B : Nat} (hN : CN P A B) {c u : Int32} {y0 o P0 A0 B0 : Nat} {ff0 kk0 oo0 q0 ii0 ot0 mf0 fi0 se0 : Int32} (ec : mX5_at N sz hd c = some (some y0)) (eF : Fp y0 = cE P0 A0 B0 ff0 kk0 oo0 q0 ii0 ot0 mf0 fi0 se0) (b0 : P0 ≤ 10007 ∧ A0 < P0 ∧ B0 < P0) (o0 : 0 < o) (o4 : o ≤ 400) (hko : isKo P0 A0 B0 u o) : RW (nI (n + 1)) (va_up hd sz.toNatClampNeg (some y)) pr gl re sa en p a b rt pm (nI (n + 1)) f g pts ah (upd ps n (nI P)) (upd as n (nI A)) (upd bs n (nI B)) (upd (upd fr n (-1)) n c) (upd kp n u) (upd ko n (nI o)) (y :: Lp) (va_up Fp y (cE P A B c u (nI o) 0 0 0 0 (-1) (-1))) := by
  obtain ⟨n', e1, e2, ⟨ad, PP, AA, BB, ff, kk, oo, m24, inj, hall⟩, t, s, hC⟩ := h
  have : n' = n := (nI_eq (by omega) (by omega)).mp (e1.symm.trans en0)
  subst this
  have adn : ∀ i, i < n' → ad i ≠ y := fun i hi e => hy (by rw [← e]; exact (hall i hi).2.1)
  -- the curve of which the kernel is
  obtain ⟨j0, hj0, ec2, kj⟩ : ∃ j0, j0 < n' ∧ c = nI j0 ∧ isKo (PP j0) (AA j0) (BB j0) u o := by
    rw [e1] at ec
    rcases atC N m24 (hd := hd) c with ⟨k, -⟩ | ⟨i, hi, ec2, k, -⟩
    · rw [ec] at k; cases k
    · obtain ⟨z1, z2, ⟨q, ii, ot, mf, fi, se, z3, -⟩, -, -, -, ⟨-, -, c3, c4, c5, -⟩, -⟩ := hall i hi
      rw [ec, z1] at k
      have ey : y0 = ad i := Option.some.inj (Option.some.inj k)
      rw [ey, z3] at eF
      have el := congrArg Prod.snd (Sum.inr.inj eF)
      dsimp only at el
      have h1 := List.cons.inj el
      have h2 := List.cons.inj h1.2
      have h3 := List.cons.inj h2.2
      have a1 := (nI_eq (by omega) (by omega)).mp (Value.int.inj h1.1)
      have a2 := (nI_eq (by omega) (by omega)).mp (Value.int.inj h2.1)
      have a3 := (nI_eq (by omega) (by omega)).mp (Value.int.inj h3.1)
      exact ⟨i, hi, ec2, by rw [a1, a2, a3]; exact hko⟩
  refine ⟨n' + 1, rfl, rfl, ⟨fun i => if i = n' then y else ad i, fun i => if i = n' then P else PP i, fun i => if i = n' then A else AA i, fun i => if i = n' then B else BB i, fun i => if i = n' then c else ff i, fun i => if i = n' then u else kk i, fun i => if i = n' then nI o else oo i, by omega, fun i j hi hj e => ?_, fun i hi => ?_⟩, t, s, hC⟩
  · dsimp only at e
    by_cases ei : i = n'
    · by_cases ej : j = n'
      · omega
      · rw [if_pos ei, if_neg ej] at e
        exact absurd e.symm (adn j (by omega))
    · by_cases ej : j = n'
      · rw [if_neg ei, if_pos ej] at e
        exact absurd e (adn i (by omega))
      · rw [if_neg ei, if_neg ej] at e
        exact inj i j (by omega) (by omega) e
  · rw [en0, nI_clamp (by omega)]
    by_cases ei : i = n'
    · subst ei
      simp only [if_pos (show i = i from rfl)]
      have ej : ¬ j0 = i := by omega
      refine ⟨va_up_self _ _ _, List.mem_cons_self, ⟨0, 0, 0, 0, -1, -1, va_up_self _ _ _, Or.inl rfl, Or.inl rfl, Or.inl ⟨rfl, rfl, rfl⟩⟩, if_pos rfl, if_pos rfl, if_pos rfl, hN, Or.inr ⟨j0, o, hj0, ec2, by rw [← ec2]; exact if_pos rfl, if_pos rfl, if_pos rfl, rfl, o0, o4, ?_⟩⟩
      rw [if_neg ej, if_neg ej, if_neg ej]; exact kj
    · obtain ⟨z1, z2, ⟨q, ii, ot, mf, fi, se, z3, z3'⟩, z4, z5, z6, z7, z8⟩ := hall i (by omega)
      simp only [if_neg ei]
      refine ⟨by rw [va_up_ne _ _ ei]; exact z1, List.mem_cons_of_mem _ z2, ⟨q, ii, ot, mf, fi, se, by rw [va_up_ne _ _ (adn i (by omega))]; exact z3, z3'⟩, ?_, ?_, ?_, z7, ?_⟩
      · unfold upd; rw [if_neg ei]; exact z4
      · unfold upd; rw [if_neg ei]; exact z5
      · unfold upd; rw [if_neg ei]; exact z6
      · rcases z8 with ⟨k1, k2⟩ | ⟨j, o', hj, k1, k2, k3, k4, k5, k6, k7, k8⟩
        · exact Or.inl ⟨k1, by unfold upd; rw [if_neg ei, if_neg ei]; exact k2⟩
        · refine Or.inr ⟨j, o', hj, k1, by unfold upd; rw [if_neg ei, if_neg ei]; exact k2, by unfold upd; rw [if_neg ei]; exact k3, by unfold upd; rw [if_neg ei]; exact k4, k5, k6, k7, ?_⟩
          have ej : ¬ j = n' := by omega
          rw [if_neg ej, if_neg ej, if_neg ej]; exact k8
theorem RW.drop {sz : Int32} {hd : Nat → Option Nat} {pr : Int32} {gl : Nat → Int32} {re : Int32} {sa en : Nat → Int32} {p a b rt pm cu : Int32} {f g pts ah ps as bs fr kp ko : Nat → Int32} {Lp : List Nat} {Fp : Nat → va_E} (h : RW sz hd pr gl re sa en p a b rt pm cu f g pts ah ps as bs fr kp ko Lp Fp) {n : Nat} (en0 : sz = nI (n + 1)) (n24 : n < 24) {v : Option Nat} : RW (nI n) (va_up hd (nI n).toNatClampNeg v) pr gl re sa en p a b rt pm (nI n) f g pts ah ps as bs fr kp ko Lp Fp := by
  obtain ⟨n', e1, e2, ⟨ad, PP, AA, BB, ff, kk, oo, m24, inj, hall⟩, t, s, hC⟩ := h
  have : n' = n + 1 := (nI_eq (by omega) (by omega)).mp (e1.symm.trans en0)
  subst this
  refine ⟨n, rfl, rfl, ⟨ad, PP, AA, BB, ff, kk, oo, by omega, fun i j hi hj => inj i j (by omega) (by omega), fun i hi => ?_⟩, t, s, hC⟩
  obtain ⟨z1, z2⟩ := hall i (by omega)
  rw [nI_clamp (by omega)]
  exact ⟨by rw [va_up_ne _ _ (by omega)]; exact z1, z2⟩
/-- what is told of the kernel by which a curve was made -/
theorem RW.kern {N : Nat} (hN : 2 ^ 64 ≤ N) {sz : Int32} {hd : Nat → Option Nat} {pr : Int32} {gl : Nat → Int32} {re : Int32} {sa en : Nat → Int32} {p a b rt pm cu : Int32} {f g pts ah ps as bs fr kp ko : Nat → Int32} {Lp : List Nat} {Fp : Nat → va_E} (h : RW sz hd pr gl re sa en p a b rt pm cu f g pts ah ps as bs fr kp ko Lp Fp) (d : Int32) :
    (mX5_at N sz hd d = some none ∧ mX6_in N d.toInt64 0 ((cu - 1).toInt64) = some 0) ∨
    ∃ y0 D n P A B ff kk oo q ii ot mf fi se, D < n ∧ n ≤ 24 ∧ sz = nI n ∧ cu = nI n ∧ d = nI D ∧ y0 ∈ Lp ∧ mX5_at N sz hd d = some (some y0) ∧ Fp y0 = cE P A B ff kk oo q ii ot mf fi se ∧ mX6_in N d.toInt64 0 ((cu - 1).toInt64) = some 1 ∧ ((oo = 0 ∧ fr D = -1) ∨ (¬ oo = 0 ∧ ¬ fr D = -1 ∧ fr D = ff ∧ kp D = kk ∧ ko D = oo ∧ ∃ y1 o P1 A1 B1 ff1 kk1 oo1 q1 ii1 ot1 mf1 fi1 se1 pm1 f1 g1, oo = nI o ∧ o ≤ 400 ∧ isKo P1 A1 B1 kk o ∧ y1 ∈ Lp ∧ y1 ≠ y0 ∧ mX5_at N sz hd ff = some (some y1) ∧ Fp y1 = cE P1 A1 B1 ff1 kk1 oo1 q1 ii1 ot1 mf1 fi1 se1 ∧ disc P1 A1 B1 ≠ 0 ∧ mX6_has N p a b rt pm cu f g ps as bs ff = some (1, nI P1, nI A1, nI B1, nI P1, pm1, f1, g1) ∧ CU P1 A1 B1 (nI P1) (nI A1) (nI B1) (nI P1) pm1 f1 g1 pts ah)) := by
  obtain ⟨n, e1, e2, ⟨ad, PP, AA, BB, ff, kk, oo, hR⟩, t, s, hC⟩ := h
  subst e1 e2
  have n24 := hR.1
  rcases atC N n24 (hd := hd) d with ⟨k, z⟩ | ⟨i, hi, ec, k, z⟩
  · left
    exact ⟨k, by rw [inE, z]⟩
  · right
    subst ec
    obtain ⟨w1, w2, ⟨q, ii, ot, mf, fi, se, w3, w4⟩, -, -, -, w5, w6⟩ := hR.2.2 i hi
    refine ⟨ad i, i, n, PP i, AA i, BB i, ff i, kk i, oo i, q, ii, ot, mf, fi, se, hi, n24, rfl, rfl, rfl, w2, by rw [k, w1], w3, by rw [inE, z], ?_⟩
    rcases w6 with w6 | ⟨j, o, hj, k1, k2, k3, k4, k5, k6, k7, k8⟩
    · exact Or.inl w6
    · right
      have hjn : j < n := by omega
      obtain ⟨v1, v2, ⟨q1, ii1, ot1, mf1, fi1, se1, v3, -⟩, -, -, -, v5, -⟩ := hR.2.2 j hjn
      have zj : inF (nI j).toInt64 0 ((nI n - 1).toInt64) = 1 := by
        unfold inF
        rw [if_pos]
        constructor
        · exact Int64.le_iff_toInt_le.mpr (by rw [nIl_toInt (by omega), show (0 : Int64).toInt = 0 by decide]; omega)
        · exact Int64.le_iff_toInt_le.mpr (by rw [nIl_toInt (by omega), sub1_toInt (n := n) (by omega) (by omega)]; omega)
      obtain ⟨pm1, f1, g1, hh, hU⟩ := hasI hN hR hC hjn zj
      refine ⟨by rw [k5]; exact nI_ne0 k6 (by omega), by rw [k2]; exact nI_m1 (by omega), by rw [k1, k2], k3, k4, ad j, o, PP j, AA j, BB j, ff j, kk j, oo j, q1, ii1, ot1, mf1, fi1, se1, pm1, f1, g1, k5, k7, k8, v2, fun e => by have := hR.2.1 j i hjn hi e; omega, ?_, v3, v5.2.2.2.2.2, by rw [k1]; exact hh, hU⟩
      rw [k1]
      rcases atC N n24 (hd := hd) (nI j) with ⟨-, y⟩ | ⟨i', hi', e', y, -⟩
      · rw [zj] at y; cases y
      · have := (nI_eq (by omega) (by omega)).mp e'
        subst this
        rw [y, v1]
theorem V_kernel0 {N : Nat} {n D : Nat} (hD : D < n) (n24 : n ≤ 24) {cu : Int32} (hin : mX6_in N (nI D).toInt64 0 ((cu - 1).toInt64) = some 1) {fr kp ko : Nat → Int32} (h : fr D = -1) (x : Int32) : mX6_kernel N cu fr kp ko (nI D) x = some (-2) := by
  have hix : ¬ (nI D < 0 ∨ 24 ≤ (nI D).toNatClampNeg) := ix_nI (by omega) (by omega)
  unfold mX6_kernel
  rw [hin]; simp only [Option.bind_some]
  rw [if_neg (show ¬ (1 : Int32) = 0 by decide), if_neg hix, nI_clamp (by omega)]; dsimp only [mi_let]
  rw [if_pos h]
theorem V_kernel1 {N : Nat} {n D : Nat} (hD : D < n) (n24 : n ≤ 24) {cu : Int32} (hin : mX6_in N (nI D).toInt64 0 ((cu - 1).toInt64) = some 1) {fr kp ko : Nat → Int32} {ff kk oo : Int32} (h : ¬ fr D = -1) (e1 : fr D = ff) (e2 : kp D = kk) (e3 : ko D = oo) (x : Int32) : ∃ r, mX5_kernel_s N ff kk oo (nI D) x = some r ∧ mX6_kernel N cu fr kp ko (nI D) x = some r := by
  have hix : ¬ (nI D < 0 ∨ 24 ≤ (nI D).toNatClampNeg) := ix_nI (by omega) (by omega)
  have i0 : (0 : Int64).toInt = 0 := by decide
  have i2 : (2 : Int64).toInt = 2 := by decide
  unfold mX6_kernel mX5_kernel_s
  rw [hin]; simp only [Option.bind_some]
  simp only [if_neg hix]
  rw [if_neg (show ¬ (1 : Int32) = 0 by decide), nI_clamp (by omega)]; dsimp only [mi_let]
  rw [if_neg h, inE, e1, e2, e3]; simp only [Option.bind_some]
  by_cases k : inF x.toInt64 0 2 = 0
  · rw [if_pos k]
    rw [in_ix, i0, i2] at k
    have n0 : ¬ x = 0 := fun z => k (by rw [z]; decide)
    have n1 : ¬ x = 1 := fun z => k (by rw [z]; decide)
    have n2 : ¬ x = 2 := fun z => k (by rw [z]; decide)
    rw [if_neg n0, if_neg n1, if_neg n2]
    exact ⟨_, rfl, rfl⟩
  · rw [if_neg k]
    obtain ⟨m, hm, hm2, rfl⟩ := in_nat (lo := 0) (hi := 2) (by decide) (by decide) k
    rcases (show m = 0 ∨ m = 1 ∨ m = 2 by omega) with z | z | z
    · subst z; rw [if_pos (show nI 0 = 0 from rfl), if_pos (show nI 0 = 0 from rfl)]; exact ⟨_, rfl, rfl⟩
    · subst z; rw [if_neg (show ¬ nI 1 = 0 by decide), if_neg (show ¬ nI 1 = 0 by decide), if_pos (show nI 1 = 1 from rfl), if_pos (show nI 1 = 1 from rfl)]; exact ⟨_, rfl, rfl⟩
    · subst z; rw [if_neg (show ¬ nI 2 = 0 by decide), if_neg (show ¬ nI 2 = 0 by decide), if_neg (show ¬ nI 2 = 1 by decide), if_neg (show ¬ nI 2 = 1 by decide), if_pos (show nI 2 = 2 from rfl)]; exact ⟨_, rfl, rfl⟩
theorem V_image0 {N : Nat} {n D : Nat} (hD : D < n) (n24 : n ≤ 24) {p a b rt pm cu : Int32} {f g ps as bs : Nat → Int32} (hin : mX6_in N (nI D).toInt64 0 ((cu - 1).toInt64) = some 1) {fr kp ko : Nat → Int32} (h : fr D = -1) (x : Int32) : mX6_image N p a b rt pm cu f g ps as bs fr kp ko (nI D) x = some (-2, p, a, b, rt, pm, f, g) := by
  have hix : ¬ (nI D < 0 ∨ 24 ≤ (nI D).toNatClampNeg) := ix_nI (by omega) (by omega)
  unfold mX6_image
  rw [hin]; simp only [Option.bind_some]
  rw [if_neg (show ¬ (1 : Int32) = 0 by decide), if_neg hix, nI_clamp (by omega)]; dsimp only [mi_let]
  rw [if_pos h]
theorem V_drop {N : Nat} {sz cu : Int32} {n : Nat} (e1 : sz = nI (n + 1)) (e2 : cu = nI (n + 1)) (n24 : n < 24) : mX5_drop_d N sz = some (nI n, nI n) ∧ mX6_drop N cu = some (nI n, nI n) := by
  have hs : nI (n + 1) - 1 = nI n := by rw [nI_zI, nI_zI, show (1 : Int32) = zI 1 from rfl, zI_sub]; congr 1; omega
  unfold mX5_drop_d mX6_drop
  rw [e1, e2, hs]; dsimp only [mi_let]
  rw [if_neg (ix_nI (k := n) (n := 24) n24 (by omega)), if_neg (nI_ne0 (by omega) (by omega))]
  exact ⟨rfl, rfl⟩
theorem cE_3 {P A B P' A' B' : Nat} {a1 a2 a3 a4 a5 a6 a7 a8 a9 b1 b2 b3 b4 b5 b6 b7 b8 b9 : Int32} (h : cE P A B a1 a2 a3 a4 a5 a6 a7 a8 a9 = cE P' A' B' b1 b2 b3 b4 b5 b6 b7 b8 b9) : nI P = nI P' ∧ nI A = nI A' ∧ nI B = nI B' := by
  have el := congrArg Prod.snd (Sum.inr.inj h)
  dsimp only at el
  have h1 := List.cons.inj el
  have h2 := List.cons.inj h1.2
  have h3 := List.cons.inj h2.2
  exact ⟨Value.int.inj h1.1, Value.int.inj h2.1, Value.int.inj h3.1⟩
