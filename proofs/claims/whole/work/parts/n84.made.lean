/-- what the two makers are, in one field -/
def mkF {F : Type} [mFld F] {P A B : Nat} {φ : Int → F} (hc : CX F P A B φ) (I O : Nat) (u v : Int32) : Prop := ∃ U : EP (φ A) (φ B), pe P φ u U.1 ∧ isOrd (gO hc) ez O U ∧ fstP hc (isOrd (gO hc) ez O) u ∧ ((I = 1 ∧ v = -1) ∨ (1 < I ∧ fstP hc (t2P hc I U) v))
theorem mkF_un {F : Type} [mFld F] {P A B : Nat} {φ : Int → F} (hc : CX F P A B φ) {I O : Nat} {u v u' v' : Int32} (h : mkF hc I O u v) (k : mkF hc I O u' v') : u = u' ∧ v = v' := by
  obtain ⟨U, p, o, f, s⟩ := h
  obtain ⟨U', p', o', f', s'⟩ := k
  have e := fstP_un hc f f'
  subst e
  have e : U = U' := Subtype.ext (pe_un hc.2.2.2.1 p p')
  subst e
  refine ⟨rfl, ?_⟩
  rcases s with ⟨i, s⟩ | ⟨i, s⟩
  · rcases s' with ⟨i', s'⟩ | ⟨i', s'⟩
    · rw [s, s']
    · omega
  · rcases s' with ⟨i', s'⟩ | ⟨i', s'⟩
    · omega
    · exact fstP_un hc s s'
/-- a first point with order O is there, when some point has it -/
theorem fst_pt {F : Type} [mFld F] {P A B : Nat} {φ : Int → F} (hc : CX F P A B φ) {O : Nat} {u : Int32} (f : fstP hc (isOrd (gO hc) ez O) u) (ex : ∃ V, isOrd (gO hc) ez O V) : ∃ U : EP (φ A) (φ B), pe P φ u U.1 ∧ isOrd (gO hc) ez O U := by
  rcases f with ⟨e, no⟩ | ⟨x, r, U, hx, hr, e, p, o, -⟩
  · obtain ⟨V, oV⟩ := ex
    refine ⟨ez, Or.inl ⟨e, rfl⟩, ?_⟩
    by_cases z : V = ez
    · rw [z] at oV; exact oV
    · exact absurd oV (no V z)
  · exact ⟨U, p, o⟩
theorem io_pr {G : Type} {op : G → G → G} {e : G} {iv : G → G} (h : isAb op e iv) {all : List G} (a : isAll all) (few : ∀ q, prm q → kap op e all q < q * q * q) (pos : 0 < all.length) {I O : Nat} (io : isIO op e all I O) : ∀ q, prm q → q ∣ I → q ∣ O := fun q hq d => by
  obtain ⟨M, K, Q⟩ := isQ_ex h a few hq pos
  obtain ⟨⟨i, ei, ni⟩, o, eo, no⟩ := io.2 q M K Q
  have KM := Q.2.1
  have K0 : 0 < K := by
    rcases Nat.eq_zero_or_pos K with z | z
    · rw [z, Nat.pow_zero, Nat.one_mul] at ei
      rw [ei] at d; exact absurd d ni
    · exact z
  rw [eo, show M = (M - 1) + 1 by omega, Nat.pow_succ, Nat.mul_assoc]
  exact Nat.dvd_trans (Nat.dvd_mul_right q o) (Nat.dvd_mul_left _ _)
def MKc (P A B : Nat) (x y m u v : Int32) : Prop := (m = 0 ∧ u = -1 ∧ v = -1) ∨ (¬ m = 0 ∧ ∃ I O, x = nI I ∧ y = nI O ∧ 0 < I ∧ I ≤ 10298 ∧ O ≤ 10298 ∧ ∀ (F : Type) (i : mFld F) (φ : Int → F) (hc : CX F P A B φ), mkF hc I O u v)
theorem fmE {N : Nat} (hN : 2 ^ 64 ≤ N) {P A B : Nat} (hp : isp P) (h5 : 5 ≤ P) (hP : P ≤ 10007) (hA : A < P) (hB : B < P) (hd : disc P A B ≠ 0) {I O : Nat} (I0 : 0 < I) (Ib : I ≤ 10298) (Ob : O ≤ 10298) (IO : I * O = cnt P A B P) (ioa : isIOa P A B I O) {pr : Int32} {gl : Nat → Int32} (ht : tabC pr gl) {od reach back : Int32} {st ends : Nat → Int32} (hS : SD reach st ends) {m u v : Int32} (hM : MKc P A B (nI I) (nI O) m u v) : ∃ pr1 od1 r1 b1 gl1 st1 en1 m1 u1 v1, mX3_findMakers N pr od reach back gl st ends (nI P) (nI A) (nI B) (nI I) (nI O) m u v = some (pr1, od1, r1, b1, gl1, st1, en1, m1, u1, v1) ∧ tabC pr1 gl1 ∧ SD r1 st1 en1 ∧ MKc P A B (nI I) (nI O) m1 u1 v1 ∧ ∀ (F : Type) (i : mFld F) (φ : Int → F) (hc : CX F P A B φ), mkF hc I O u1 v1 := by
  have c0 := cnt_pos P A B P
  unfold mX3_findMakers
  rcases hM with ⟨m0, u0, v0⟩ | ⟨m1, I', O', eI, eO, I0', Ib', Ob', all⟩
  · subst m0 u0 v0
    rw [if_pos rfl]
    have O0 : 0 < O := Nat.pos_of_ne_zero fun z => by rw [z, Nat.mul_zero] at IO; omega
    have run : ∀ (F : Type) (i : mFld F) (φ : Int → F) (hc : CX F P A B φ), ∃ o o', mi_run (mX3_findMakers_b15 N (nI P) (nI A) (nI B) (nI O)) N (0, pr, gl, -1) = some o ∧ mi_run (mX3_findMakers_b72 N (nI P) (nI I) (nI A) (nI B) (nI O) o.2.2.2) N (0, o.2.1, od, reach, back, o.2.2.1, st, ends, -1) = some o' ∧ tabC o'.2.1 o'.2.2.2.2.2.1 ∧ SD o'.2.2.2.1 o'.2.2.2.2.2.2.1 o'.2.2.2.2.2.2.2.1 ∧ mkF hc I O o.2.2.2 o'.2.2.2.2.2.2.2.2 := fun F i φ hc => by
      have ab := gO_ab hc
      obtain ⟨al, hal, hl, few⟩ := ga_ex hc
      have io := ioa F i φ hc al hal
      obtain ⟨o, eo, t1, f1⟩ := fmC15 hN hc O0 Ob (fun V => io_kill ab hal few io V) ht
      obtain ⟨U, pU, oU⟩ := fst_pt hc f1 (io_ord ab hal few io O O0 (Nat.dvd_refl _))
      have hIO := io_pr ab hal few (by omega) io
      by_cases I1 : 1 < I
      · obtain ⟨o', eo', t2, s2, f2⟩ := fmC72 hN hc pU oU I1 Ib Ob hIO t1 (od := od) (back := back) hS
        exact ⟨o, o', eo, eo', t2, s2, U, pU, oU, f1, Or.inr ⟨I1, f2⟩⟩
      · have Ie : I = 1 := by omega
        subst Ie
        obtain ⟨K, hK⟩ : ∃ K, N = K + 1 := ⟨N - 1, by omega⟩
        refine ⟨o, (0, o.2.1, od, reach, back, o.2.2.1, st, ends, -1), eo, ?_, t1, hS, U, pU, oU, f1, Or.inl ⟨rfl, rfl⟩⟩
        · rw [show mi_run (mX3_findMakers_b72 N (nI P) (nI 1) (nI A) (nI B) (nI O) o.2.2.2) N (0, o.2.1, od, reach, back, o.2.2.1, st, ends, -1) = mi_run (mX3_findMakers_b72 N (nI P) (nI 1) (nI A) (nI B) (nI O) o.2.2.2) (K + 1) (0, o.2.1, od, reach, back, o.2.2.1, st, ends, -1) by rw [← hK]]
          show (mX3_findMakers_b72 N (nI P) (nI 1) (nI A) (nI B) (nI O) o.2.2.2 (0, o.2.1, od, reach, back, o.2.2.1, st, ends, -1)).bind _ = _
          rw [show mX3_findMakers_b72 N (nI P) (nI 1) (nI A) (nI B) (nI O) o.2.2.2 (0, o.2.1, od, reach, back, o.2.2.1, st, ends, -1) = some (.inr (0, o.2.1, od, reach, back, o.2.2.1, st, ends, -1)) from by
            dsimp only [mX3_findMakers_b72]
            rw [if_neg (show ¬ nI P ≤ 0 from nI_ge (a := 0) (by omega) (by omega)), if_pos rfl, if_pos (show nI 1 ≤ 1 by decide)]]
          rfl
    obtain ⟨F, i, φ, hc⟩ := cx_ex hp h5 hP hA hB hd
    obtain ⟨⟨o1, o2, o3, o4⟩, ⟨w1, w2, w3, w4, w5, w6, w7, w8, w9⟩, e1, e2, t, s, mk⟩ := run F i φ hc
    rw [e1]; simp only [Option.bind_some]; rw [e2]
    have mka : ∀ (F : Type) (i : mFld F) (φ : Int → F) (hc : CX F P A B φ), mkF hc I O o4 w9 := fun F' i' φ' hc' => by
      obtain ⟨o', w', e1', e2', -, -, mk'⟩ := run F' i' φ' hc'
      have h1 := Option.some.inj (e1.symm.trans e1')
      subst h1
      have h2 := Option.some.inj (e2.symm.trans e2')
      subst h2
      exact mk'
    exact ⟨_, _, _, _, _, _, _, _, _, _, rfl, t, s, Or.inr ⟨by decide, I, O, rfl, rfl, I0, Ib, Ob, mka⟩, mka⟩
  · rw [if_neg m1]
    have h1 := (nI_eq (by omega) (by omega)).mp eI
    have h2 := (nI_eq (by omega) (by omega)).mp eO
    subst h1 h2
    exact ⟨_, _, _, _, _, _, _, _, _, _, rfl, ht, hS, Or.inr ⟨m1, I, O, rfl, rfl, I0, Ib, Ob, all⟩, all⟩
theorem V_made {N : Nat} (hN : 2 ^ 64 ≤ N) {P A B : Nat} {p a b rt pm cu : Int32} {f g pts ah ps as bs : Nat → Int32} {c : Int32} {pm1 : Int32} {f1 g1 : Nat → Int32} (hh : mX6_has N p a b rt pm cu f g ps as bs c = some (1, nI P, nI A, nI B, nI P, pm1, f1, g1)) (hU : CU P A B (nI P) (nI A) (nI B) (nI P) pm1 f1 g1 pts ah) {pr : Int32} {gl : Nat → Int32} (ht : tabC pr gl) {q : Int32} (hq : q = 0 ∨ q = nI (cnt P A B P)) (hd : disc P A B ≠ 0) {od reach back : Int32} {st ends : Nat → Int32} (hS : SD reach st ends) {ii oo : Int32} (hI : ii = 0 ∨ IOc P A B ii oo) {mf fi se : Int32} (hM : MKc P A B ii oo mf fi se) (mk : Nat → Int32) (x : Int32) : ∃ r pr1 gl1 od1 r1 b1 st1 en1 q1 ii1 oo1 mf1 fi1 se1, mX5_made_s N pr gl od reach back st ends (nI P) (nI A) (nI B) q ii oo mf fi se c x = some (r, pr1, gl1, od1, r1, b1, st1, en1, q1, ii1, oo1, mf1, fi1, se1) ∧ tabC pr1 gl1 ∧ SD r1 st1 en1 ∧ (q1 = 0 ∨ q1 = nI (cnt P A B P)) ∧ (ii1 = 0 ∨ IOc P A B ii1 oo1) ∧ MKc P A B ii1 oo1 mf1 fi1 se1 ∧ ∃ pm2 pts1 ah1 mk1, mX6_made N p a b rt pm cu f g pts ah ps as bs mk c x = some (r, nI P, nI A, nI B, nI P, pm2, f1, g1, pts1, ah1, mk1) ∧ CU P A B (nI P) (nI A) (nI B) (nI P) pm2 f1 g1 pts1 ah1 := by
  obtain ⟨h1, hP, h5, hp, hA, hB⟩ := hU.pos
  unfold mX5_made_s mX6_made
  rw [hh]; simp only [Option.bind_some]; rw [if_neg (show ¬ (1 : Int32) = 0 by decide)]
  have i0 : (0 : Int64).toInt = 0 := by decide
  have i3 : (3 : Int64).toInt = 3 := by decide
  rw [inE]; simp only [Option.bind_some]
  by_cases k : inF x.toInt64 0 3 = 0
  · rw [if_pos k]
    rw [in_ix, i0, i3] at k
    by_cases k1 : x < 0
    · rw [if_pos k1]; exact ⟨_, _, _, _, _, _, _, _, _, _, _, _, _, _, rfl, ht, hS, hq, hI, hM, _, _, _, _, rfl, hU⟩
    · rw [if_neg k1, if_neg (fun w => k ⟨?_, ?_⟩)]
      · exact ⟨_, _, _, _, _, _, _, _, _, _, _, _, _, _, rfl, ht, hS, hq, hI, hM, _, _, _, _, rfl, hU⟩
      · have := Int32.le_iff_toInt_le.mp (Int32.not_lt.mp k1); exact this
      · have := Int32.le_iff_toInt_le.mp w; exact this
  · rw [if_neg k]
    obtain ⟨n, hn, hn2, rfl⟩ := in_nat (lo := 0) (hi := 3) (by decide) (by decide) k
    rw [if_neg (show ¬ nI n < 0 from nI_nlt (b := 0) hn (by omega)), if_pos (show nI n ≤ 3 from nI_le (b := 3) hn2 (by omega))]
    have cb := cnt_b hU
    obtain ⟨pr1, od1, r1, b1, gl1, st1, en1, q1, i1, o1, es, t1, s1, hq1, hI1⟩ := setE hN hp h5 hP hA hB hd ht hq (od := od) (back := back) hS hI
    have hI2 := hI1
    obtain ⟨I, O, rfl, rfl, I0, Ib, eO, IO, ioa⟩ := hI2
    have O0 : 0 < O := Nat.pos_of_ne_zero fun z => by rw [z, Nat.mul_zero] at IO; omega
    have Ob : O ≤ 10298 := by have := Nat.le_mul_of_pos_left O I0; omega
    have hM1 : MKc P A B (nI I) (nI O) mf fi se := by
      rcases hM with z | ⟨z, I', O', eI, eO', I0', Ib', Ob', all⟩
      · exact Or.inl z
      · -- settled before: the numbers stay
        have hx : mX3_settle N pr od reach back gl st ends (nI P) (nI A) (nI B) q ii oo = some (pr, od, reach, back, gl, st, ends, q, ii, oo) := by
          unfold mX3_settle
          rw [if_neg (by rw [eI]; exact nI_ge (a := 0) (by omega) (by omega))]
        rw [hx] at es
        have es := Option.some.inj es
        have a1 : ii = nI I := congrArg (fun z => z.2.2.2.2.2.2.2.2.1) es
        have a2 : oo = nI O := congrArg (fun z => z.2.2.2.2.2.2.2.2.2) es
        exact Or.inr ⟨z, I', O', by rw [← a1]; exact eI, by rw [← a2]; exact eO', I0', Ib', Ob', all⟩
    obtain ⟨t, q', el, hC, hL⟩ := listE N (by omega) hU
    obtain ⟨F, i, φ, hc⟩ := cx_ex hp h5 hP hA hB hd
    have ab := gO_ab hc
    obtain ⟨W, hW, al, few, W0⟩ := pl_ex hc hL
    have io := ioa F i φ hc _ al
    obtain ⟨M, j, k', e35, hj, oj, lt, le⟩ := made35' hN hc hC hW
    -- the greatest order is n2
    have MO : M = O := by
      have h1 : M ≤ O := Nat.le_of_dvd O0 ((ord_dvd ab oj O).mp (io_kill ab al few io (W j)))
      obtain ⟨V, oV⟩ := io_ord ab al few io O O0 (Nat.dvd_refl _)
      obtain ⟨i', hi', eV⟩ := List.mem_map.mp (al.2 V)
      have h2 := le i' O (List.mem_range.mp hi') (by rw [eV]; exact oV)
      omega
    subst MO
    have dv : nI (cnt P A B P) / nI M = nI I := by
      rw [pk_div (by omega) O0 (by omega), ← IO]; congr 1; exact Nat.mul_div_cancel _ O0
    rw [es, el]; simp only [Option.bind_some]; rw [e35]; simp only [Option.bind_some]
    rw [if_neg (nI_ne0 O0 (by omega))]; dsimp only [mi_let]; rw [dv]
    by_cases n2 : 2 ≤ n
    · rw [if_pos (show 2 ≤ nI n from nI_le (a := 2) n2 (by omega))]
      obtain ⟨pr2, od2, r2, b2, gl2, st2, en2, m2, u2, v2, ef, t2, s2, hM2, mka⟩ := fmE hN hp h5 hP hA hB hd I0 Ib Ob IO ioa t1 (od := od1) (back := b1) s1 hM1
      have mk1 := mka F i φ hc
      -- the reference's first point
      have f1' : fstP hc (isOrd (gO hc) ez M) (t j) := by
        rcases Nat.eq_zero_or_pos j with z | z
        · subst z
          rw [hL.1]
          rw [W0] at oj
          have M1 : M = 1 := ord_uniq ab oj ⟨by omega, gm_e ab 1, fun i h0 hi => by omega⟩
          refine Or.inl ⟨rfl, fun V ne oV => ne ?_⟩
          have := oV.2.1
          rwa [M1, gm_1 ab] at this
        · exact fpR hc hL hW al W0 (ord_sym hc M) z hj oj (fun i' hi1 hi2 z => by have := lt i' M hi2 z; omega)
      obtain ⟨U, pU, oU, fU, sU⟩ := mk1
      have eu := fstP_un hc fU f1'
      rw [ef]; simp only [Option.bind_some]
      by_cases n3 : n = 3
      · subst n3
        rw [if_neg (show ¬ nI 3 = 2 by decide), if_pos (show 3 ≤ nI 3 by decide)]
        have eU : W j = U := by
          have := hW j hj
          rw [← eu] at this
          exact Subtype.ext (pe_un hP this pU)
        obtain ⟨⟨y52, y53⟩, e133, hz⟩ := made133' hN (M := cnt P A B P) (by omega) mk
        have hz : ∀ j, j < cnt P A B P → y53 j = 0 := hz
        have pj : pe P φ (t j) U.1 := by rw [← eu]; exact pU
        obtain ⟨⟨y62, y63, y64⟩, e162, hm⟩ := made162' hN hc (by omega) hU.invs hL hW al pj oU Ob hz
        have hm : ∀ j, j < cnt P A B P → (y64 j ≠ 0 ↔ mult (gO hc) ez U (W j)) := hm
        obtain ⟨o, e199, ho⟩ := made199' hN hc hC hL hW al hm I0 Ib (nI P)
        rw [e133]; simp only [Option.bind_some]; rw [e162]; simp only [Option.bind_some]; rw [e199]; simp only [Option.bind_some]
        have ord1 : isOrd (gO hc) ez 1 (ez : EP (φ A) (φ B)) := ⟨by omega, gm_e ab 1, fun i h0 hi => by omega⟩
        rcases o with ⟨z1, z2, z3, z4⟩ | z
        · obtain ⟨no, h2, h3, h4⟩ := ho
          have h2 : z2 = _ := h2
          have h3 : z3 = _ := h3
          have h4 : z4 = _ := h4
          subst h2 h3 h4
          have ev : v2 = -1 := by
            rcases sU with ⟨-, e⟩ | ⟨I1, f2⟩
            · exact e
            · exact fstP_un hc f2 (fpR0 hc al W0 (fun i' _ hi => no i' hi))
          rw [ev]
          exact ⟨_, _, _, _, _, _, _, _, _, _, _, _, _, _, rfl, t2, s2, hq1, Or.inr hI1, by rw [← ev]; exact hM2, _, _, _, _, rfl, hC⟩
        · obtain ⟨j2, hj2, tj2, no, ez'⟩ := ho
          have ev : v2 = t j2 := by
            rcases sU with ⟨Ie, e⟩ | ⟨I1, f2⟩
            · have : j2 = 0 := by
                rcases Nat.eq_zero_or_pos j2 with z | z
                · exact z
                · refine absurd ⟨?_, fun k k0 kI => ?_⟩ (no 0 z)
                  · rw [W0, Ie]; exact ord1
                  · omega
              rw [this, hL.1]; exact e
            · refine fstP_un hc f2 (fpR hc hL hW al W0 (t2_sym hc oU) ?_ hj2 tj2 (fun i' _ hi => no i' hi))
              rcases Nat.eq_zero_or_pos j2 with z | z
              · subst z
                have := tj2.1
                rw [W0] at this
                have := ord_uniq ab this ord1
                omega
              · exact z
          rw [ez', ev]
          exact ⟨_, _, _, _, _, _, _, _, _, _, _, _, _, _, rfl, t2, s2, hq1, Or.inr hI1, by rw [← ev]; exact hM2, _, _, _, _, rfl, hC⟩
      · have n2' : n = 2 := by omega
        subst n2'
        rw [if_pos (show nI 2 = 2 from rfl), if_neg (show ¬ 3 ≤ nI 2 by decide), if_neg (show ¬ nI 2 = 0 by decide), if_neg (show ¬ nI 2 = 1 by decide), eu]
        exact ⟨_, _, _, _, _, _, _, _, _, _, _, _, _, _, rfl, t2, s2, hq1, Or.inr hI1, by rw [← eu]; exact hM2, _, _, _, _, rfl, hC⟩
    · rw [if_neg (show ¬ 2 ≤ nI n from nI_ge (b := 2) (by omega) (by omega)), if_neg (show ¬ 3 ≤ nI n from nI_ge (b := 3) (by omega) (by omega))]
      by_cases n0 : n = 0
      · subst n0
        rw [if_pos (show nI 0 = 0 from rfl), if_pos (show nI 0 = 0 from rfl)]
        exact ⟨_, _, _, _, _, _, _, _, _, _, _, _, _, _, rfl, t1, s1, hq1, Or.inr hI1, hM1, _, _, _, _, rfl, hC⟩
      · have n1 : n = 1 := by omega
        subst n1
        rw [if_neg (show ¬ nI 1 = 0 by decide), if_neg (show ¬ nI 1 = 0 by decide), if_pos (show nI 1 = 1 from rfl)]
        exact ⟨_, _, _, _, _, _, _, _, _, _, _, _, _, _, rfl, t1, s1, hq1, Or.inr hI1, hM1, _, _, _, _, rfl, hC⟩
