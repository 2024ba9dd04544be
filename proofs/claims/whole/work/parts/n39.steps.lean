/-- the answer of a logarithm: the least number, or none -/
def isLog {G : Type} (op : G → G → G) (e : G) (x y : G) (r : Int32) : Prop := (r = -1 ∧ ¬ mult op e x y) ∨ ∃ k n : Nat, isOrd op e n x ∧ k < n ∧ r = nI k ∧ gm op e k x = y
theorem isLog_un {G : Type} {op : G → G → G} {e : G} {iv : G → G} (h : isAb op e iv) {x y : G} {r r' : Int32} (a : isLog op e x y r) (b : isLog op e x y r') : r = r' := by
  rcases a with ⟨e1, n1⟩ | ⟨k, n, o, kn, e1, g1⟩
  · rcases b with ⟨e2, -⟩ | ⟨k', n', o', kn', e2, g2⟩
    · rw [e1, e2]
    · exact absurd ⟨k', g2.symm⟩ n1
  · rcases b with ⟨e2, n2⟩ | ⟨k', n', o', kn', e2, g2⟩
    · exact absurd ⟨k, g1.symm⟩ n2
    · have := ord_uniq h o o'
      subst this
      rw [e1, e2, ord_inj h o kn kn' (g1.trans g2.symm)]
/-- an int multiple -/
theorem gz_mod {G : Type} {op : G → G → G} {e : G} {iv : G → G} (h : isAb op e iv) {n : Nat} {x : G} (o : isOrd op e n x) (z : Int) : gm op e (z % (n : Int)).toNat x = gz op e iv z x := by
  have n0 := o.1
  have key : ∀ m k : Nat, m % n = k % n → gm op e m x = gm op e k x := fun m k hmk => by
    have q : ∀ m, gm op e m x = gm op e (m % n) x := fun m => by
      conv => lhs; rw [← Nat.div_add_mod m n, gm_add h, Nat.mul_comm, gm_mul h, o.2.1, gm_e h, ab_0l h]
    rw [q m, q k, hmk]
  unfold gz
  have e1 := Int.emod_nonneg z (show (n : Int) ≠ 0 by omega)
  by_cases c : 0 ≤ z
  · rw [if_pos c]
    refine key _ _ ?_
    obtain ⟨m, rfl⟩ : ∃ m : Nat, z = m := ⟨z.toNat, by omega⟩
    rw [← Int.natCast_emod, Int.toNat_natCast, Int.toNat_natCast, Nat.mod_mod]
  · rw [if_neg c, gm_iv h]
    refine ab_ivu h ?_
    rw [← gm_add h]
    refine (ord_dvd h o _).mpr ?_
    have : ((n : Nat) : Int) ∣ (((-z).toNat + (z % (n : Int)).toNat : Nat) : Int) := by
      rw [Int.natCast_add, Int.toNat_of_nonneg e1, Int.toNat_of_nonneg (by omega)]
      exact ⟨-(z / n), by rw [Int.emod_def]; grind⟩
    exact Int.natCast_dvd_natCast.mp this
theorem gz_add {G : Type} {op : G → G → G} {e : G} {iv : G → G} (h : isAb op e iv) {n : Nat} {x : G} (o : isOrd op e n x) (y z : Int) : gz op e iv (y + z) x = op (gz op e iv y x) (gz op e iv z x) := by
  have n0 := o.1
  rw [← gz_mod h o, ← gz_mod h o y, ← gz_mod h o z, ← gm_add h]
  have q : ∀ m, gm op e m x = gm op e (m % n) x := fun m => by
    conv => lhs; rw [← Nat.div_add_mod m n, gm_add h, Nat.mul_comm, gm_mul h, o.2.1, gm_e h, ab_0l h]
  rw [q, q ((y % (n : Int)).toNat + _)]
  congr 1
  have e1 := Int.emod_nonneg y (show (n : Int) ≠ 0 by omega)
  have e2 := Int.emod_nonneg z (show (n : Int) ≠ 0 by omega)
  have e3 := Int.emod_nonneg (y + z) (show (n : Int) ≠ 0 by omega)
  apply Int.ofNat.inj
  show (((_ % n : Nat)) : Int) = ((_ % n : Nat) : Int)
  rw [Int.natCast_emod, Int.natCast_emod, Int.natCast_add, Int.toNat_of_nonneg e1, Int.toNat_of_nonneg e2, Int.toNat_of_nonneg e3, Int.emod_emod_of_dvd _ (Int.dvd_refl _), ← Int.add_emod]
theorem h_swap {G : Type} {op : G → G → G} {e : G} {iv : G → G} (h : isAb op e iv) (a b c d : G) : op (op a b) (op c d) = op (op a c) (op b d) := ab_4 h a b c d
theorem stepsTo_ok {F : Type} [mFld F] {P A B : Nat} {φ : Int → F} (hc : CX F P A B φ) {N : Nat} (hN : 2 ^ 64 ≤ N) {U : EP (φ A) (φ B)} {n : Nat} (ho : isOrd (gO hc) ez n U) (hn : n ≤ 10300) {r : Nat} {back : Int32} {st ends : Nat → Int32} (hL : LD hc U r st ends) (hb : pe P φ back (en (gm (gO hc) ez (2 * r + 1) U)).1) {t : Int32} {T : EP (φ A) (φ B)} (ht : pe P φ t T.1) :
    ∃ w, mX2_stepsTo N (nI n) (nI r) back st ends (nI P) (nI A) t = some w ∧ isLog (gO hc) ez U T w := by
  have ab := gO_ab hc
  have hP := hc.2.2.2.1
  have n0 := ho.1
  have r127 := hL.1
  -- an answer by a whole number z with z U = T
  have ans : ∀ z : Int, -1000000 ≤ z → z ≤ 1000000 → gz (gO hc) ez en z U = T → ∃ w, mJ9_floorMod_7cf53 N (zI z) (nI n) = some w ∧ isLog (gO hc) ez U T w := fun z z1 z2 hz => by
    have e1 := Int.emod_nonneg z (show (n : Int) ≠ 0 by omega)
    have e2 := Int.emod_lt_of_pos z (show (0 : Int) < n by omega)
    exact ⟨_, fmod_spec N n0 (by omega) (by omega) (by omega), Or.inr ⟨(z % (n : Int)).toNat, n, ho, by omega, rfl, by rw [gz_mod ab ho, hz]⟩⟩
  have wd : (2 : Int32) * nI r + 1 = nI (2 * r + 1) := by rw [show (2 : Int32) = nI 2 from rfl, pk_mul, nI_1]
  obtain ⟨o, ho2, q⟩ := mi_run_ok (mX2_stepsTo_b31 N (nI n) (nI (2 * r + 1)) st (nI P) (nI A) back ends) (fun s => ∃ (g : Nat) (L : EP (φ A) (φ B)), s.2 = nI g ∧ g < n + 2 * (2 * r + 1) ∧ pe P φ s.1 L.1 ∧ gO hc L (gm (gO hc) ez g U) = T ∧ (∃ c, g = c * (2 * r + 1)) ∧ ∀ k : Nat, k < n → gm (gO hc) ez k U = T → g ≤ k + r)
      (fun o => match o with | .inl _ => ¬ mult (gO hc) ez U T | .inr w => isLog (gO hc) ez U T w) (fun s => 20000 - s.2.toNatClampNeg) (by
    rintro ⟨x3, x4⟩ ⟨g, L, e1, gl, pL, sL, ⟨c, ec⟩, hk⟩
    have e1' : x4 = nI g := e1
    subst e1'
    have pL' : pe P φ x3 L.1 := pL
    dsimp only [mX2_stepsTo_b31, mi_let]
    rw [nI_add]
    by_cases c1 : nI (n + (2 * r + 1)) ≤ nI g
    · right
      rw [if_pos c1]
      refine ⟨_, rfl, ?_⟩
      show ¬ mult (gO hc) ez U T
      intro m
      obtain ⟨k, kn, hk'⟩ := mult_lt ab ho m
      have := hk k kn hk'.symm
      have := (nI_leI (by omega) (by omega)).mp c1
      omega
    · rw [if_neg c1]
      have gl2 : g < n + (2 * r + 1) := Nat.lt_of_not_le (fun w => c1 (nI_le w (by omega)))
      by_cases c2 : x3 = -1
      · right
        have L0 : L = ez := Subtype.ext ((pe_none hP pL').mp c2)
        rw [L0, ab_0l ab] at sL
        obtain ⟨w, ew, hw⟩ := ans g (by omega) (by omega) (by rw [gz_nat]; exact sL)
        rw [if_pos c2, show nI g = zI (g : Int) from rfl, ew]
        exact ⟨_, rfl, hw⟩
      · rw [if_neg c2]
        have pL2 := pL'
        rcases pL' with ⟨z, -⟩ | ⟨x, y, hx, hy, ex, eL⟩
        · exact absurd z c2
        · rw [show mX2_noted N st x3 = some (st x) by rw [ex]; exact noted_nI N st (by omega) (by omega)]; simp only [Option.bind_some]
          rcases hL.2.2 x (by omega) with ⟨z1, z2⟩ | ⟨i, y', z1, z2, z3, z4, z5⟩
          · -- no step ends there
            left
            rw [z1, if_pos (show (0 : Int32) ≤ 0 by decide)]
            obtain ⟨w, ew, pw⟩ := sumCe hc N (by omega) pL2 hb
            rw [ew]; simp only [Option.bind_some]
            refine ⟨_, rfl, ⟨g + (2 * r + 1), _, nI_add _ _, by omega, pw, ?_, ⟨c + 1, by rw [ec]; grind⟩, fun k kn hk' => ?_⟩, ?_⟩
            · rw [gm_add ab g (2 * r + 1), h_swap ab, ab.2.1 (en _), ab.2.2.2, ab.2.2.1]; exact sL
            · -- were k within this stretch, L would be a step
              have gk := hk k kn hk'
              refine Classical.byContradiction (fun w => ?_)
              have near : ∃ j : Nat, j ≤ r ∧ (L = gm (gO hc) ez j U ∨ L = en (gm (gO hc) ez j U)) := by
                by_cases le : g ≤ k
                · refine ⟨k - g, by omega, Or.inl ?_⟩
                  refine ab_canc ab (x := gm (gO hc) ez g U) ?_
                  rw [ab.2.1, sL, ← hk', ← gm_add ab]; congr 1; omega
                · refine ⟨g - k, by omega, Or.inr ?_⟩
                  refine ab_canc ab (x := gm (gO hc) ez g U) ?_
                  rw [ab.2.1 _ L, sL, ← hk', show g = k + (g - k) by omega, gm_add ab, show k + (g - k) - k = g - k by omega, ab.1, ab.2.2.2, ab.2.2.1]
              obtain ⟨j, jr, hj⟩ := near
              have j0 : j ≠ 0 := fun z => by
                have : L = ez := by
                  rcases hj with q | q
                  · rw [q, z]; rfl
                  · rw [q, z]; exact ab_ive ab
                rw [this] at eL
                exact absurd (show (none : Pt F) = some (φ x, φ y) from eL) (by simp)
              obtain ⟨pj, -⟩ := hL.2.1 j (by omega) jr
              rcases pj with ⟨-, ej⟩ | ⟨xj, yj, hxj, hyj, e5, e6⟩
              · have : L = ez := by
                  have gj : gm (gO hc) ez j U = ez := Subtype.ext ej
                  rcases hj with q | q
                  · rw [q, gj]
                  · rw [q, gj]; exact ab_ive ab
                rw [this] at eL
                exact absurd (show (none : Pt F) = some (φ x, φ y) from eL) (by simp)
              · have xe : φ (x : Int) = φ (xj : Int) := by
                  rcases hj with q | q
                  · rw [q, e6] at eL
                    exact (congrArg Prod.fst (Option.some.inj eL)).symm
                  · rw [q] at eL
                    have : ng (gm (gO hc) ez j U).1 = some (φ x, φ y) := eL
                    rw [e6] at this
                    exact (congrArg Prod.fst (Option.some.inj this)).symm
                have := gf_nat hc.1 hx hxj xe
                subst this
                exact z2 j yj (by omega) jr (by omega) e5
            · show 20000 - (nI g + nI (2 * r + 1)).toNatClampNeg < 20000 - (nI g).toNatClampNeg
              rw [nI_add, nI_clamp (by omega), nI_clamp (by omega)]; omega
          · -- a step ends there
            right
            rw [z1, if_neg (nI_nle (by omega) (by omega)), endOf_nI N ends z2 (by omega)]; simp only [Option.bind_some]
            obtain ⟨pj, -⟩ := hL.2.1 i z2 z3
            have onL := L.2
            have onI := (gm (gO hc) ez i U).2
            by_cases c3 : ends i = x3
            · rw [if_pos c3]
              have Li : gm (gO hc) ez i U = L := Subtype.ext (pe_un hP pj (by rw [c3]; exact pL2))
              obtain ⟨w, ew, hw⟩ := ans ((g : Int) + i) (by omega) (by omega) (by
                rw [show (g : Int) + i = ((g + i : Nat) : Int) by omega, gz_nat, gm_add ab, Li, ab.2.1]; exact sL)
              rw [show nI g + nI i = zI ((g : Int) + i) by rw [nI_zI, nI_zI, zI_add], ew]
              exact ⟨_, rfl, hw⟩
            · rw [if_neg c3]
              have Li : L = en (gm (gO hc) ez i U) := by
                rcases pj with ⟨e7, -⟩ | ⟨xj, yj, hxj, hyj, e5, e6⟩
                · rw [e7] at z5
                  exact absurd z5.symm (pt_ne (by omega) (by omega))
                · have := (nI_eq (by omega) (by omega)).mp (z5.symm.trans e5)
                  have xx : x = xj := by omega
                  subst xx
                  rw [eL] at onL; rw [e6] at onI
                  rcases x_same onL onI rfl with q | q
                  · exfalso
                    refine c3 (pe_inj hc.1 (W := L.1) (Or.inr ⟨x, yj, hx, hyj, e5, ?_⟩) pL2)
                    rw [eL]; exact q
                  · exact Subtype.ext (by show L.1 = ng _; rw [eL, e6]; exact q)
              obtain ⟨w, ew, hw⟩ := ans ((g : Int) - i) (by omega) (by omega) (by
                rw [show (g : Int) - i = (g : Int) + (-(i : Int)) by omega, gz_add ab ho, gz_nat]
                have : gz (gO hc) ez en (-(i : Int)) U = en (gm (gO hc) ez i U) := by
                  unfold gz
                  rw [if_neg (by omega), show (- -(i : Int)).toNat = i by omega, gm_iv ab]
                rw [this, ← Li, ab.2.1]; exact sL)
              rw [show nI g - nI i = zI ((g : Int) - i) by rw [nI_zI, nI_zI, zI_sub], ew]
              exact ⟨_, rfl, hw⟩) N (t, 0) ⟨0, T, rfl, by omega, ht, ab.2.2.1 T, ⟨0, by omega⟩, fun k _ _ => by omega⟩ (by
    show 20000 - (0 : Int32).toNatClampNeg < N; omega)
  unfold mX2_stepsTo
  dsimp only [mi_let]
  rw [if_pos (show (1 : Int32) ≤ nI n from nI_le (a := 1) (by omega) (by omega)), wd, ho2]
  rcases o with ⟨y5, y6⟩ | w
  · exact ⟨_, rfl, Or.inl ⟨rfl, q⟩⟩
  · exact ⟨w, rfl, q⟩
