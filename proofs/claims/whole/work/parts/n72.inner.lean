/-- the points over x: the lesser one and its opposite, or none -/
theorem over_x {F : Type} [mFld F] {P A B : Nat} {φ : Int → F} (hc : CX F P A B φ) {x : Nat} (hx : x < P) {V : EP (φ A) (φ B)} {Y : F} (hV : V.1 = some (φ x, Y)) : ∃ y, y < P ∧ Y = φ y ∧ y * y % P = cub P A B x := by
  obtain ⟨y, hy, e⟩ := hc.1.2.2 Y
  refine ⟨y, hy, e, ?_⟩
  have := V.2
  rw [hV, e] at this
  exact (pe_on hc.1 hc.2.2.2.1 hx hy).mp this
theorem lesser_pm {F : Type} [mFld F] {P A B : Nat} {φ : Int → F} (hc : CX F P A B φ) {x r : Nat} (hx : x < P) (hr : isR P (cub P A B x) r) {R V : EP (φ A) (φ B)} (hR : pe P φ (nI (16384 * x + r)) R.1) {Y : F} (hV : V.1 = some (φ x, Y)) : V = R ∨ V = en R := by
  have hc0 := hc
  obtain ⟨hF, hp, h5, hP, -, -, -⟩ := hc0
  obtain ⟨y, hy, eY, hy2⟩ := over_x hc hx hV
  have rP := hr.1
  have eR : R.1 = some (φ x, φ r) := by
    rcases hR with ⟨e, -⟩ | ⟨x', y', hx', hy', e, e2⟩
    · exact absurd e (nI_m1 (by omega))
    · have := (nI_eq (by omega) (by omega)).mp e
      rw [e2, show x' = x by omega, show y' = r by omega]
  rcases two_roots hp h5 rP hy (hy2.trans hr.2.1.symm) with z | ⟨r0, z⟩
  · left; apply Subtype.ext; rw [hV, eR, eY, z]
  · right; apply Subtype.ext
    show V.1 = ng R.1
    rw [hV, eR, eY, z]
    show _ = some (φ x, - φ r)
    have : - φ r = φ ((P - r : Nat) : Int) := by
      have h1 : φ ((P - r : Nat) : Int) + φ r = 0 := by
        rw [← hF.1.2.1, hF.2.1]
        exact ⟨1, by omega⟩
      grind
    rw [this]
theorem sub_iv {G : Type} {op : G → G → G} {e : G} {iv : G → G} (h : isAb op e iv) {n : Nat} {g : G} (o : isOrd op e n g) (k : Nat) {z : G} (m : mult op e g (gm op e k z)) : mult op e g (gm op e k (iv z)) := by
  rw [gm_iv h]; exact (mult_sub h o).2.2 _ m
theorem ord_iv {G : Type} {op : G → G → G} {e : G} {iv : G → G} (h : isAb op e iv) {n : Nat} {g : G} (o : isOrd op e n (iv g)) : isOrd op e n g := by
  have key : ∀ k, gm op e k (iv g) = e ↔ gm op e k g = e := fun k => by
    rw [gm_iv h]
    constructor
    · intro z
      have := congrArg iv z
      rw [ab_iviv h, ab_ive h] at this; exact this
    · intro z; rw [z, ab_ive h]
  exact ⟨o.1, (key n).mp o.2.1, fun i h0 hi z => o.2.2 i h0 hi ((key i).mpr z)⟩
theorem iv_ord {G : Type} {op : G → G → G} {e : G} {iv : G → G} (h : isAb op e iv) {n : Nat} {g : G} (o : isOrd op e n g) : isOrd op e n (iv g) := ord_iv h (by rw [ab_iviv h]; exact o)
/-- the part of n1 that is a power of q -/
theorem innC {N : Nat} (hN : 2 ^ 64 ≤ N) {F : Type} [mFld F] {P A B : Nat} {φ : Int → F} (hc : CX F P A B φ) {all : List (EP (φ A) (φ B))} (al : isAll all) (hl : all.length = cnt P A B P) (cb : cnt P A B P ≤ 10298) {q M K : Nat} (Q : isQ (gO hc) ez all q M K) (MK : 1 ≤ M + K) {pr : Int32} {gl : Nat → Int32} (ht : tabC pr gl) {reach : Int32} {st ends : Nat → Int32} (hS : SD reach st ends) : ∃ pr1 o1 r1 b1 gl1 st1 en1, mX3_innerPart N pr reach gl st ends (nI P) (nI A) (nI B) (nI (cnt P A B P)) (nI q) (nI (q ^ (M + K))) = some (nI (q ^ K), pr1, o1, r1, b1, gl1, st1, en1) ∧ tabC pr1 gl1 ∧ SD r1 st1 en1 := by
  have hc0 := hc
  obtain ⟨hF, hp, h5, hP, hA, hB, -⟩ := hc0
  have ab := gO_ab hc
  have hq := Q.1
  have q2 := hq.1
  have KM := Q.2.1
  obtain ⟨m, em, nm⟩ := Q.2.2.2.2
  rw [hl] at em
  have c0 : 0 < cnt P A B P := cnt_pos P A B P
  have m0 : 0 < m := by
    rcases Nat.eq_zero_or_pos m with z | z
    · rw [z] at em; omega
    · exact z
  have qp : ∀ i, 0 < q ^ i := fun i => Nat.pow_pos (by omega)
  have pb : q ^ (M + K) ≤ 10298 := by
    have := Nat.le_mul_of_pos_right (q ^ (M + K)) m0
    omega
  have qb : ∀ i, i ≤ M + K → q ^ i ≤ 10298 := fun i hi => Nat.le_trans (Nat.pow_le_pow_right (by omega) hi) pb
  have em2 : cnt P A B P / q ^ (M + K) = m := by rw [em]; exact Nat.mul_div_cancel_left _ (qp _)
  have mb : m ≤ 10298 := by
    have := Nat.le_mul_of_pos_left m (qp (M + K))
    omega
  -- a multiple of a point by m
  have syl : ∀ R : EP (φ A) (φ B), gm (gO hc) ez (q ^ (M + K)) (gm (gO hc) ez m R) = ez := fun R => by
    rw [← gm_mul ab, ← em]; exact cx_lagr hc R
  have lift : ∀ z : EP (φ A) (φ B), gm (gO hc) ez (q ^ M) z = ez → ∃ V, gm (gO hc) ez m V = z := fun z hz => by
    obtain ⟨u, v, huv⟩ := bez_nat (a := m) (b := q ^ M) m0 (qp M)
    have cop : Nat.gcd m (q ^ M) = 1 := (cop_pow (prm_cop hq nm) M).symm
    refine ⟨gm (gO hc) ez u z, ?_⟩
    rw [← gm_mul ab, Nat.mul_comm, huv, cop]
    exact gm_1mod ab hz
  obtain ⟨r0, b0, st0, en0, el, hLD, hb0⟩ := lay_ok hc hN hS (u := -1) (U := ez) (Or.inl ⟨rfl, rfl⟩) 1
  have key := mi_run_ok (mX3_innerPart_b21 N (nI P) (nI A) (nI B) (nI (q ^ (M + K))) (nI (cnt P A B P)) (nI q)) (fun s => ∃ (x i r : Nat) (U : EP (φ A) (φ B)), x ≤ P ∧ i ≤ M ∧ s.2.2.1 = nI x ∧ tabC s.2.2.2.1 s.2.2.2.2.2.2.2.1 ∧ pe P φ s.1 U.1 ∧ isOrd (gO hc) ez (q ^ i) U ∧ s.2.1 = nI (q ^ i) ∧ s.2.2.2.2.1 = nI (q ^ i) ∧ s.2.2.2.2.2.1 = nI r ∧ LD hc U r s.2.2.2.2.2.2.2.2.1 s.2.2.2.2.2.2.2.2.2 ∧ pe P φ s.2.2.2.2.2.2.1 (en (gm (gO hc) ez (2 * r + 1) U)).1 ∧ ∀ (x' : Nat) (V : EP (φ A) (φ B)) (Y : F), x' < x → V.1 = some (φ x', Y) → isOrd (gO hc) ez (q ^ M) (gm (gO hc) ez m V) → i = M ∧ (0 < K → ∃ t, t < K ∧ mult (gO hc) ez U (gm (gO hc) ez (q ^ t) (gm (gO hc) ez m V))))
    (fun o => match o with | .inl s => tabC s.2.2.2.1 s.2.2.2.2.2.2.2.1 ∧ SD s.2.2.2.2.2.1 s.2.2.2.2.2.2.2.2.1 s.2.2.2.2.2.2.2.2.2 ∧ K = 0 | .inr s => s.1 = nI (q ^ K) ∧ tabC s.2.1 s.2.2.2.2.2.1 ∧ SD s.2.2.2.1 s.2.2.2.2.2.2.1 s.2.2.2.2.2.2.2) (fun s => 20000 - s.2.2.1.toNatClampNeg) (by
    rintro ⟨x7, x8, x9, x10, x11, x12, x13, x14, x15, x16⟩ ⟨x, i, r, U, hx, iM, e9, t, pU, oU, e8, e11, e12, LU, pb13, hist⟩
    have e9 : x9 = nI x := e9
    have e8 : x8 = nI (q ^ i) := e8
    have e11 : x11 = nI (q ^ i) := e11
    have e12 : x12 = nI r := e12
    have t : tabC x10 x14 := t
    have pU : pe P φ x7 U.1 := pU
    have LU : LD hc U r x15 x16 := LU
    have pb13 : pe P φ x13 (en (gm (gO hc) ez (2 * r + 1) U)).1 := pb13
    subst e9 e8 e11 e12
    have qi := qb i (by omega)
    dsimp only [mX3_innerPart_b21, mi_let]
    by_cases k : P ≤ x
    · right
      rw [if_pos (nI_le k (by omega))]
      refine ⟨_, rfl, t, LU.sd, ?_⟩
      rcases Nat.eq_zero_or_pos K with K0 | K0
      · exact K0
      · exfalso
        have xP : x = P := by omega
        subst xP
        -- a point that is lifted is over some x
        have ovr : ∀ V : EP (φ A) (φ B), isOrd (gO hc) ez (q ^ M) (gm (gO hc) ez m V) → ∃ x' Y, x' < x ∧ V.1 = some (φ (x' : Nat), Y) := fun V oV => by
          rcases hV : V.1 with _ | ⟨X, Y⟩
          · exfalso
            have : V = ez := Subtype.ext hV
            rw [this, gm_e ab] at oV
            have h2 : 2 ^ 1 ≤ q ^ M := Nat.le_trans (Nat.pow_le_pow_left q2 1) (Nat.pow_le_pow_right (by omega) (by omega))
            exact oV.2.2 1 (by omega) (by omega) (gm_e ab 1)
          · obtain ⟨x', hx', e⟩ := hF.2.2 X
            exact ⟨x', Y, hx', by rw [e]⟩
        obtain ⟨z0, oz0⟩ := q_max ab al Q
        obtain ⟨V0, hV0⟩ := lift z0 oz0.2.1
        rw [← hV0] at oz0
        obtain ⟨x0, Y0, hx0, eV0⟩ := ovr V0 oz0
        have iM' := (hist x0 V0 Y0 hx0 eV0 oz0).1
        subst iM'
        obtain ⟨z, oz, hz⟩ := q_other ab al Q oU
        obtain ⟨V, hV⟩ := lift z oz.2.1
        rw [← hV] at oz
        obtain ⟨x1, Y1, hx1, eV1⟩ := ovr V oz
        obtain ⟨t', ht', mt⟩ := (hist x1 V Y1 hx1 eV1 oz).2 K0
        rw [hV] at mt
        exact hz t' ht' mt
    · rw [if_neg (nI_ge (by omega) (by omega))]
      have hxP : x < P := by omega
      have dn : 20000 - (nI x + 1).toNatClampNeg < 20000 - (nI x).toNatClampNeg := by rw [nI_1, nI_clamp (by omega), nI_clamp (by omega)]; omega
      obtain ⟨g', t', ql⟩ := lesserC (N := N) (by omega) h5 hP hA hB hxP t
      rcases ql with ⟨ρ, hr, e⟩ | ⟨no, e⟩
      · rw [e]; simp only [Option.bind_some]
        have rP := hr.1
        obtain ⟨R, pR⟩ := isPt_pe hc (u := nI (16384 * x + ρ)) (Or.inr ⟨x, ρ, hxP, rP, rfl, hr.2.1⟩)
        rw [if_neg (pt_ne (by omega) (by omega)), if_neg (nI_ne0 (qp _) (by omega)), pk_div (by omega) (qp _) (by omega), em2]
        obtain ⟨v, ev, pv⟩ := multC hc hN pR (nI m).toInt64
        rw [nI_l_toInt (by omega), gz_nat] at pv
        rw [ev]; simp only [Option.bind_some]
        obtain ⟨o, oo, od, eo⟩ := owC hc hN pv (n := q ^ (M + K)) (qp _) (by omega) (syl R)
        obtain ⟨κ, κM', eκ⟩ := dvd_qpow hq od
        subst eκ
        have κM : κ ≤ M := by
          have h1 := q_kill ab al Q (syl R)
          have h2 := (ord_dvd ab oo _).mp h1
          exact (Nat.pow_le_pow_iff_right (by omega)).mp (Nat.le_of_dvd (qp M) h2)
        have qκ := qb κ (by omega)
        rw [eo]; simp only [Option.bind_some]
        by_cases kc : κ ≤ i
        · rw [if_pos (nI_le (Nat.pow_le_pow_right (by omega) kc) (by omega))]
          obtain ⟨j, jκ, ej, nj, yj⟩ := ptlC hc hN oU (by omega) LU pb13 pv (q := q) (k := κ) q2 (by omega) (by have := qb 1 MK; rw [Nat.pow_one] at this; omega) oo.2.1
          obtain ⟨rel1, rel2⟩ := q_rel ab al Q oU oo.2.1 nj
          rw [ej]; simp only [Option.bind_some]
          have bij := qb (j + i) (by omega)
          rw [pk_mul, ← Nat.pow_add]
          by_cases lt : q ^ (j + i) < q ^ (M + K)
          · left
            rw [if_pos (nI_lt lt (by omega))]
            have lt' : j + i < M + K := (Nat.pow_lt_pow_iff_right (by omega)).mp lt
            refine ⟨_, rfl, ⟨x + 1, i, r, U, by omega, iM, nI_1 x, t', pU, oU, rfl, rfl, rfl, LU, pb13, fun x' V Y hx' hV oV => ?_⟩, dn⟩
            by_cases xx : x' = x
            · subst xx
              have eo2 : isOrd (gO hc) ez (q ^ M) (gm (gO hc) ez m R) ∧ mult (gO hc) ez U (gm (gO hc) ez (q ^ j) (gm (gO hc) ez m V)) := by
                rcases lesser_pm hc hxP hr pR hV with eV | eV
                · subst eV; exact ⟨oV, yj⟩
                · subst eV
                  rw [gm_iv ab] at oV ⊢
                  exact ⟨ord_iv ab oV, sub_iv ab oU _ yj⟩
              have h3 := ord_uniq ab eo2.1 oo
              have h4 : M ≤ κ := (Nat.pow_le_pow_iff_right (show 1 < q by omega)).mp (Nat.le_of_eq h3)
              exact ⟨by omega, fun _ => ⟨j, by omega, eo2.2⟩⟩
            · exact hist x' V Y (by omega) hV oV
          · right
            rw [if_neg (nI_nlt (by omega) (by omega))]
            have ge : M + K ≤ j + i := Nat.le_of_not_lt fun z => lt (Nat.pow_lt_pow_right (by omega) z)
            have i1 := rel2 (by omega) ⟨κ, kc, oo.2.1⟩
            have jK : j = K := by omega
            subst jK
            exact ⟨_, rfl, rfl, t', LU.sd⟩
        · rw [if_neg (nI_ge (Nat.pow_lt_pow_right (by omega) (by omega)) (by omega))]
          obtain ⟨r', b', st', en', el', LR, pb'⟩ := lay_ok hc hN LU.sd pv (nI (q ^ κ))
          rw [el']; simp only [Option.bind_some]
          obtain ⟨j, jκ, ej, nj, yj⟩ := ptlC hc hN oo (by omega) LR pb' pU (q := q) (k := i) q2 (by omega) (by have := qb 1 MK; rw [Nat.pow_one] at this; omega) oU.2.1
          obtain ⟨rel1, rel2⟩ := q_rel ab al Q oo oU.2.1 nj
          rw [ej]; simp only [Option.bind_some]
          have bij := qb (j + κ) (by omega)
          rw [pk_mul, ← Nat.pow_add]
          by_cases lt : q ^ (j + κ) < q ^ (M + K)
          · left
            rw [if_pos (nI_lt lt (by omega))]
            refine ⟨_, rfl, ⟨x + 1, κ, r', gm (gO hc) ez m R, by omega, κM, nI_1 x, t', pv, oo, rfl, rfl, rfl, LR, pb', fun x' V Y hx' hV oV => ?_⟩, dn⟩
            by_cases xx : x' = x
            · subst xx
              have eo2 : isOrd (gO hc) ez (q ^ M) (gm (gO hc) ez m R) ∧ mult (gO hc) ez (gm (gO hc) ez m R) (gm (gO hc) ez m V) := by
                rcases lesser_pm hc hxP hr pR hV with eV | eV
                · subst eV; exact ⟨oV, 1, (gm_1 ab _).symm⟩
                · subst eV
                  rw [gm_iv ab] at oV ⊢
                  exact ⟨ord_iv ab oV, (mult_sub ab oo).2.2 _ ⟨1, (gm_1 ab _).symm⟩⟩
              have h3 := ord_uniq ab eo2.1 oo
              have h4 : M ≤ κ := (Nat.pow_le_pow_iff_right (show 1 < q by omega)).mp (Nat.le_of_eq h3)
              exact ⟨by omega, fun K0 => ⟨0, K0, by rw [Nat.pow_zero, gm_1 ab]; exact eo2.2⟩⟩
            · have := (hist x' V Y (by omega) hV oV).1
              omega
          · right
            rw [if_neg (nI_nlt (by omega) (by omega))]
            have ge : M + K ≤ j + κ := Nat.le_of_not_lt fun z => lt (Nat.pow_lt_pow_right (by omega) z)
            have i1 := rel2 (by omega) ⟨i, by omega, oU.2.1⟩
            have jK : j = K := by omega
            subst jK
            exact ⟨_, rfl, rfl, t', LR.sd⟩
      · left
        rw [e]; simp only [Option.bind_some]
        rw [if_pos trivial]
        refine ⟨_, rfl, ⟨x + 1, i, r, U, by omega, iM, nI_1 x, t', pU, oU, rfl, rfl, rfl, LU, pb13, fun x' V Y hx' hV oV => ?_⟩, dn⟩
        by_cases xx : x' = x
        · subst xx
          obtain ⟨y, hy, -, hy2⟩ := over_x hc hxP hV
          exact absurd hy2 (no y hy)
        · exact hist x' V Y (by omega) hV oV) N (-1, 1, 0, pr, 1, nI r0, b0, gl, st0, en0) ⟨0, 0, r0, ez, by omega, by omega, rfl, ht, Or.inl ⟨rfl, rfl⟩, ⟨by rw [Nat.pow_zero]; omega, gm_e ab _, fun i h0 hi => by rw [Nat.pow_zero] at hi; omega⟩, by rw [Nat.pow_zero]; rfl, by rw [Nat.pow_zero]; rfl, rfl, hLD, hb0, fun x' V Y hx' => by omega⟩ (by show 20000 - _ < N; omega)
  obtain ⟨o, eo, ho⟩ := key
  unfold mX3_innerPart
  rw [el]; simp only [Option.bind_some]; rw [eo]; simp only [Option.bind_some]
  rcases o with ⟨y17, y18, y19, y20, y21, y22, y23, y24, y25, y26⟩ | ⟨z1, z2, z3, z4, z5, z6, z7, z8⟩
  · obtain ⟨h1, h2, h3⟩ := ho
    refine ⟨_, _, _, _, _, _, _, by rw [h3, Nat.pow_zero]; rfl, h1, h2⟩
  · obtain ⟨h1, h2, h3⟩ := ho
    have h1 : z1 = nI (q ^ K) := h1
    subst h1
    exact ⟨_, _, _, _, _, _, _, rfl, h2, h3⟩
