/-- a kernel's order, whatever field is taken -/
def isKo (P A B : Nat) (u : Int32) (o : Nat) : Prop := isPt P A B u ∧ ∀ (F : Type) (i : mFld F) (φ : Int → F) (hc : CX F P A B φ) (U : EP (φ A) (φ B)), pe P φ u U.1 → isOrd (gO hc) ez o U
theorem subM (P A t : Nat) (m : Nat) (hA : A < 10007) (ht : t < 10007) (hm : m ≤ 7) : ((nI A).toInt64 - lN m * (nI t).toInt64).toInt = (A : Int) - m * t := by
  have b : m * t ≤ 7 * 10007 := Nat.mul_le_mul hm (by omega)
  rw [nI_l (n := t) (by omega), lN_mul, Int64.toInt_sub, nIl_toInt (by omega), lN_toInt (by omega), Int.natCast_mul]
  rw [← Int.natCast_mul]
  exact Int.bmod_eq_of_le (by omega) (by omega)
theorem V_quotient {N : Nat} (hN : 2 ^ 64 ≤ N) {P A B : Nat} {p a b rt pm cu : Int32} {f g pts ah ps as bs : Nat → Int32} {c : Int32} {pm1 : Int32} {f1 g1 : Nat → Int32} (hh : mX6_has N p a b rt pm cu f g ps as bs c = some (1, nI P, nI A, nI B, nI P, pm1, f1, g1)) (hU : CU P A B (nI P) (nI A) (nI B) (nI P) pm1 f1 g1 pts ah) (hd : disc P A B ≠ 0) {n : Nat} (hn : n ≤ 24) (ec : cu = nI n) (fr kp ko : Nat → Int32) (u : Int32) : (∃ r pm2 pts1 ah1, mX5_quotient_s N (nI n) (nI P) (nI A) (nI B) c u = some (.inl (r, nI n)) ∧ mX6_quotient N p a b rt pm cu f g pts ah ps as bs fr kp ko c u = some (r, nI P, nI A, nI B, nI P, pm2, nI n, f1, g1, pts1, ah1, ps, as, bs, fr, kp, ko) ∧ CU P A B (nI P) (nI A) (nI B) (nI P) pm2 f1 g1 pts1 ah1) ∨ (n < 24 ∧ ∃ A' B' o pm2 pts1 ah1, A' < P ∧ B' < P ∧ disc P A' B' ≠ 0 ∧ 0 < o ∧ o ≤ 400 ∧ isKo P A B u o ∧ mX5_quotient_s N (nI n) (nI P) (nI A) (nI B) c u = some (.inr (nI n, nI (n + 1), nI P, nI A', nI B', c, u, nI o, 0, 0, 0, 0, -1, -1)) ∧ mX6_quotient N p a b rt pm cu f g pts ah ps as bs fr kp ko c u = some (nI n, nI P, nI A, nI B, nI P, pm2, nI (n + 1), f1, g1, pts1, ah1, upd ps n (nI P), upd as n (nI A'), upd bs n (nI B'), upd (upd fr n (-1)) n c, upd kp n u, upd ko n (nI o)) ∧ CU P A B (nI P) (nI A) (nI B) (nI P) pm2 f1 g1 pts1 ah1) := by
  obtain ⟨h1, hP, h5, hp, hA, hB⟩ := hU.pos
  subst ec
  unfold mX5_quotient_s mX6_quotient
  rw [hh]; simp only [Option.bind_some]; rw [if_neg (show ¬ (1 : Int32) = 0 by decide)]
  rcases holds2 N h1 hP hA hB u with ⟨kq, e1, e2⟩ | ⟨e1, e2⟩
  · rw [e1, e2]; simp only [Option.bind_some]; rw [if_neg (show ¬ (1 : Int32) = 0 by decide), if_neg (show ¬ (1 : Int32) = 0 by decide)]
    obtain ⟨F, i, φ, hc⟩ := cx_ex hp h5 hP hA hB hd
    obtain ⟨U, hu⟩ := isPt_pe hc kq
    obtain ⟨o, oU⟩ := cx_ord hc U
    obtain ⟨X, Y, hX⟩ := xy_ex hc oU
    obtain ⟨pts1, ah1, el, hC, hL⟩ := orderR hc hN hU hu oU
    have cb := cnt_b hU
    have o0 := oU.1
    have ob : o ≤ 10298 := by
      have := Nat.le_of_dvd cb.1 ((ord_dvd (gO_ab hc) oU _).mp (cx_lagr hc U))
      omega
    rw [el]; simp only [Option.bind_some]
    rcases divC hN hc hu oU hX c with ⟨o4, ed⟩ | ⟨o4, ed⟩
    · rw [ed, if_pos (show nI o ≤ 400 from nI_le (b := 400) o4 (by omega))]; simp only [Option.bind_some]
      by_cases c0 : n = 24
      · left
        subst c0
        rw [if_neg (show ¬ nI 24 < 24 from nI_nlt (b := 24) (by omega) (by omega)), if_pos (show nI 24 = 24 from rfl)]
        exact ⟨_, _, _, _, rfl, rfl, hC⟩
      · right
        have hix : ¬ (nI n < 0 ∨ 24 ≤ (nI n).toNatClampNeg) := ix_nI (by omega) (by omega)
        have hs : nI (n + 1) - 1 = nI n := by rw [nI_zI, nI_zI, show (1 : Int32) = zI 1 from rfl, zI_sub]; congr 1; omega
        have ko' : isKo P A B u o := by
          refine ⟨kq, fun F' i' φ' hc' U' pU' => ?_⟩
          obtain ⟨o', oo', eo'⟩ := cx_ord hc' U' |>.imp fun o' h => And.intro h trivial
          obtain ⟨p1, a1, e', -⟩ := orderR hc' hN hU pU' oo'
          rw [el] at e'
          have h1 : nI o = nI o' := congrArg (fun z => z.1) (Option.some.inj e')
          have ob' : o' ≤ 10298 := by
            have := Nat.le_of_dvd cb.1 ((ord_dvd (gO_ab hc') oo' _).mp (cx_lagr hc' U'))
            omega
          rw [(nI_eq (by omega) (by omega)).mp h1]; exact oo'
        refine ⟨by omega, qA P A (qT X A (o - 1)), qB P B (qW X A B (o - 1)), o, _, pts1, ah1, qA_lt h1, qB_lt h1, quoNS hc oU hX, o0, o4, ko', ?_, ?_, hC⟩
        · rw [if_pos (show nI n < 24 from nI_lt (b := 24) (by omega) (by omega))]
          unfold mX5_keep_k
          dsimp only [mi_let]
          rw [if_neg hix, nI_1, hs]
          rfl
        · obtain ⟨⟨y1, y2, y3, y4⟩, eo, s, w, e1', e2', sb, wb, ms, mw⟩ := quoR hN hc hU.invs hu oU o4 hX
          have e1' : y1 = lN s := e1'
          have e2' : y2 = lN w := e2'
          subst e1' e2'
          have lt : qT X A (o - 1) % P < P := Nat.mod_lt _ h1
          have lw : qW X A B (o - 1) % P < P := Nat.mod_lt _ h1
          rw [if_neg (show ¬ nI n = 24 from fun w => c0 ((nI_eq (b := 24) (by omega) (by omega)).mp w)), eo]; simp only [Option.bind_some]
          rw [modM N P s h1 hP (by omega), ms]; simp only [Option.bind_some]
          have m1 := subM P A (qT X A (o - 1) % P) 5 (by omega) (by omega) (by omega)
          have m2 := subM P B (qW X A B (o - 1) % P) 7 (by omega) (by omega) (by omega)
          rw [modE N h1 hP]; simp only [Option.bind_some]
          rw [modM N P w h1 hP (by omega), mw]; simp only [Option.bind_some]
          rw [modE N h1 hP]; simp only [Option.bind_some]
          have n1 : modF P ((nI A).toInt64 - 5 * (nI (qT X A (o - 1) % P)).toInt64) = qA P A (qT X A (o - 1)) := by
            unfold modF qA; rw [show (5 : Int64) = lN 5 from rfl, m1]; rfl
          have n2 : modF P ((nI B).toInt64 - 7 * (nI (qW X A B (o - 1) % P)).toInt64) = qB P B (qW X A B (o - 1)) := by
            unfold modF qB; rw [show (7 : Int64) = lN 7 from rfl, m2]; rfl
          rw [n1, n2]
          unfold mX6_make
          dsimp only [mi_let]
          rw [if_neg hix, if_neg hix, if_neg hix, if_neg hix, nI_1, hs]; simp only [Option.bind_some]
          rw [if_neg hix, if_neg hix, if_neg hix, nI_clamp (by omega)]
    · left
      rw [ed, if_neg (show ¬ nI o ≤ 400 from nI_ge (a := 400) o4 (by omega))]
      exact ⟨_, _, _, _, rfl, rfl, hC⟩
  · rw [e1, e2]; exact Or.inl ⟨_, _, _, _, rfl, rfl, hU⟩
