theorem prf2 {N : Nat} (hN : 2 ^ 64 ≤ N) {P A B : Nat} {pm : Int32} {f g pts ah : Nat → Int32} (hU : CU P A B (nI P) (nI A) (nI B) (nI P) pm f g pts ah) (hd : disc P A B ≠ 0) {x y : Int32} (hI : IOc P A B x y) {pr : Int32} {gl : Nat → Int32} (ht : tabC pr gl) (u5 : Int32) : ∃ u pr1 gl1, mX3_leastProver N pr gl (nI P) (nI A) (nI B) y = some (u, pr1, gl1) ∧ tabC pr1 gl1 ∧ ∃ pts1 ah1 o, mX6_list N (nI P) (nI A) (nI B) pm g pts ah = some (nI (cnt P A B P), pts1, ah1) ∧ CU P A B (nI P) (nI A) (nI B) (nI P) (nI (cnt P A B P)) f g pts1 ah1 ∧ mi_run (mX6_proof_b36 N (nI P) (nI A) (nI B) f g u5) N (0, nI (cnt P A B P), pts1, ah1) = some o ∧ ((∃ y1, u = -1 ∧ o = .inl (y1, nI (cnt P A B P), pts1, ah1)) ∨ o = .inr (u, nI P, nI A, nI B, u5, nI (cnt P A B P), f, g, pts1, ah1)) := by
  obtain ⟨h1, hP, h5, hp, hA, hB⟩ := hU.pos
  obtain ⟨F, i, φ, hc⟩ := cx_ex hp h5 hP hA hB hd
  obtain ⟨I, O, rfl, rfl, I0, Ib, eO, IO, ioa⟩ := hI
  have cb := cnt_b hU
  obtain ⟨all, al, hl, few⟩ := ga_ex hc
  obtain ⟨t, er, t1, t2⟩ := reachC hN h5 hP
  obtain ⟨t', er', t1', t2', tP⟩ := leastR hN h5 hP
  have := sq_un t1 t2 t1' t2'
  subst this
  have t0 : 0 < t := Nat.pos_of_ne_zero fun z => by rw [z] at t2; omega
  have O0 : 0 < O := Nat.pos_of_ne_zero fun z => by rw [z] at IO; omega
  have Ob : O ≤ 10298 := by have := Nat.le_mul_of_pos_left O I0; omega
  obtain ⟨u, pr1, gl1, e1, tb, f1⟩ := lpC hN hc tP t1 t2 er O0 Ob ⟨I, by rw [← IO, Nat.mul_comm]⟩ (fun V => io_kill (gO_ab hc) al few (ioa F i φ hc all al) V) ht
  obtain ⟨pts1, ah1, el, hC, hL⟩ := listE N (by omega) hU
  obtain ⟨o, eo, ho⟩ := lpR hc hN hC hL tP t0 er' u5
  refine ⟨u, pr1, gl1, e1, tb, pts1, ah1, o, el, hC, eo, ?_⟩
  rcases o with ⟨z1, z2, z3, z4⟩ | z
  · obtain ⟨h1, h2, h3, h4⟩ := ho
    have h2 : z2 = _ := h2
    have h3 : z3 = _ := h3
    have h4 : z4 = _ := h4
    subst h2 h3 h4
    exact Or.inl ⟨z1, fstP_un hc f1 h1, rfl⟩
  · obtain ⟨u', h1, h2⟩ := ho
    rw [fstP_un hc f1 h1]
    exact Or.inr (by rw [h2])
theorem V_proof {N : Nat} (hN : 2 ^ 64 ≤ N) {P A B : Nat} {p a b rt pm cu : Int32} {f g pts ah ps as bs : Nat → Int32} {c : Int32} {pm1 : Int32} {f1 g1 : Nat → Int32} (hh : mX6_has N p a b rt pm cu f g ps as bs c = some (1, nI P, nI A, nI B, nI P, pm1, f1, g1)) (hU : CU P A B (nI P) (nI A) (nI B) (nI P) pm1 f1 g1 pts ah) {pr : Int32} {gl : Nat → Int32} (ht : tabC pr gl) {q : Int32} (hq : q = 0 ∨ q = nI (cnt P A B P)) (hd : disc P A B ≠ 0) {od reach back : Int32} {st ends : Nat → Int32} (hS : SD reach st ends) {ii oo : Int32} (hI : ii = 0 ∨ IOc P A B ii oo) (x : Int32) : ∃ r pr1 gl1 od1 r1 b1 st1 en1 q1 ii1 oo1, mX5_proof_s N pr gl od reach back st ends (nI P) (nI A) (nI B) q ii oo c x = some (r, pr1, gl1, od1, r1, b1, st1, en1, q1, ii1, oo1) ∧ tabC pr1 gl1 ∧ SD r1 st1 en1 ∧ (q1 = 0 ∨ q1 = nI (cnt P A B P)) ∧ (ii1 = 0 ∨ IOc P A B ii1 oo1) ∧ ((ii1 = ii ∧ oo1 = oo) ∨ IOc P A B ii1 oo1) ∧ ∃ A1 B1 pm2 f2 g2 pts1 ah1, mX6_proof N p a b rt pm cu f g pts ah ps as bs c x = some (r, nI P, nI A1, nI B1, nI P, pm2, f2, g2, pts1, ah1) ∧ CU P A1 B1 (nI P) (nI A1) (nI B1) (nI P) pm2 f2 g2 pts1 ah1 := by
  obtain ⟨h1, hP, h5, hp, hA, hB⟩ := hU.pos
  unfold mX5_proof_s mX6_proof
  rw [hh]; simp only [Option.bind_some]; rw [if_neg (show ¬ (1 : Int32) = 0 by decide)]
  have i0 : (0 : Int64).toInt = 0 := by decide
  have i1 : (1 : Int64).toInt = 1 := by decide
  rw [inE]; simp only [Option.bind_some]
  by_cases k : inF x.toInt64 0 1 = 0
  · rw [if_pos k]
    rw [in_ix, i0, i1] at k
    by_cases k1 : x < 0
    · rw [if_pos k1]; exact ⟨_, _, _, _, _, _, _, _, _, _, _, rfl, ht, hS, hq, hI, Or.inl ⟨rfl, rfl⟩, _, _, _, _, _, _, _, rfl, hU⟩
    · rw [if_neg k1, if_neg (fun w => k ⟨?_, ?_⟩)]
      · exact ⟨_, _, _, _, _, _, _, _, _, _, _, rfl, ht, hS, hq, hI, Or.inl ⟨rfl, rfl⟩, _, _, _, _, _, _, _, rfl, hU⟩
      · have := Int32.le_iff_toInt_le.mp (Int32.not_lt.mp k1); exact this
      · have := Int32.le_iff_toInt_le.mp w; exact this
  · rw [if_neg k]
    obtain ⟨n, hn, hn2, rfl⟩ := in_nat (lo := 0) (hi := 1) (by decide) (by decide) k
    rw [if_neg (show ¬ nI n < 0 from nI_nlt (b := 0) hn (by omega)), if_pos (show nI n ≤ 1 from nI_le (b := 1) hn2 (by omega))]
    by_cases n1 : n = 1
    · subst n1
      rw [if_pos (show nI 1 = 1 from rfl), if_pos (show nI 1 = 1 from rfl)]
      obtain ⟨d, A', B', pm2, f2, g2, d2, dP, nd, eA, eB, hd', -, -, tw, tr, hC⟩ := tw2 hN hU hd
      obtain ⟨-, -, -, -, hA', hB'⟩ := hC.pos
      obtain ⟨pr1, gl1, e, t⟩ := sizeC (N := N) (by omega) h5 hP hA hB ht hq
      have cb := cnt_b hU
      have tc := tw_cnt hp h5 hP d2 dP nd eA eB
      have ev : 2 * nI P + 2 - nI (cnt P A B P) = nI (cnt P A' B' P) := by
        rw [show (2 : Int32) = zI 2 from rfl, nI_zI, nI_zI, nI_zI, zI_mul, zI_add, zI_sub]; congr 1; omega
      obtain ⟨pr2, od2, r2, b2, gl2, st2, en2, q2, i2, o2, es, t2, s2, -, hI2⟩ := setE hN hp h5 hP hA' hB' hd' t (q := nI (cnt P A' B' P)) (Or.inr rfl) (od := od) (back := back) hS (x := 0) (y := 0) (Or.inl rfl)
      obtain ⟨u, pr3, gl3, e3, t3, pts1, ah1, o, el, hC2, eo, ho⟩ := prf2 hN hC hd' hI2 t2 (nI P)
      rw [tw, tr]; simp only [Option.bind_some]; rw [e, el]; simp only [Option.bind_some]; dsimp only [mi_let]
      rw [ev, es, eo]; simp only [Option.bind_some]; rw [e3]
      rcases ho with ⟨y1, rfl, rfl⟩ | rfl
      · exact ⟨_, _, _, _, _, _, _, _, _, _, _, rfl, t3, s2, Or.inr rfl, hI, Or.inl ⟨rfl, rfl⟩, _, _, _, _, _, _, _, rfl, hC2⟩
      · exact ⟨_, _, _, _, _, _, _, _, _, _, _, rfl, t3, s2, Or.inr rfl, hI, Or.inl ⟨rfl, rfl⟩, _, _, _, _, _, _, _, rfl, hC2⟩
    · have n0 : n = 0 := by omega
      subst n0
      rw [if_neg (show ¬ nI 0 = 1 by decide), if_neg (show ¬ nI 0 = 1 by decide)]
      obtain ⟨pr2, od2, r2, b2, gl2, st2, en2, q2, i2, o2, es, t2, s2, hq2, hI2⟩ := setE hN hp h5 hP hA hB hd ht hq (od := od) (back := back) hS hI
      obtain ⟨u, pr3, gl3, e3, t3, pts1, ah1, o, el, hC2, eo, ho⟩ := prf2 hN hU hd hI2 t2 (nI P)
      rw [es, el]; simp only [Option.bind_some]; rw [eo, e3]
      rcases ho with ⟨y1, rfl, rfl⟩ | rfl
      · exact ⟨_, _, _, _, _, _, _, _, _, _, _, rfl, t3, s2, hq2, Or.inr hI2, Or.inr hI2, _, _, _, _, _, _, _, rfl, hC2⟩
      · exact ⟨_, _, _, _, _, _, _, _, _, _, _, rfl, t3, s2, hq2, Or.inr hI2, Or.inr hI2, _, _, _, _, _, _, _, rfl, hC2⟩
