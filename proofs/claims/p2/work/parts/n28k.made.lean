/-! the makers of the points -/
theorem placeE {N P A B : Nat} (hP : P ≤ 10007) (hc : cnt P A B P ≤ 10298) {t q : Nat → Int32} (hL : LK P A B P t q) {u : Int32} (hu : isP P u) : ∃ k, k < 10300 ∧ mX6_placeOf N t q u = some (nI k) := by
  unfold mX6_placeOf
  rcases hu with rfl | ⟨x, y, hx, hy, rfl⟩
  · rw [if_pos rfl]; exact ⟨0, by omega, rfl⟩
  · have hne : ¬ nI (16384 * x + y) = -1 := fun h => by
      have := congrArg Int32.toInt h
      rw [nI_toInt (by omega), show ((-1 : Int32)).toInt = -1 by decide] at this
      omega
    have hd : nI (16384 * x + y) / 16384 = nI x := by
      rw [show (16384 : Int32) = nI 16384 from rfl, pk_div (by omega) (by omega) (by omega)]; congr 1; omega
    have hcx := cnt_mono P A B (k := x) (l := P) (by omega)
    rw [if_neg hne]
    dsimp only [mi_let]
    rw [hd, if_neg (ix_nI (k := x) (n := 10008) (by omega) (by omega)), nI_clamp (by omega), (hL.2 x hx).1, if_neg (ix_nI (k := cnt P A B x) (n := 10300) (by omega) (by omega)), nI_1]
    split
    · exact ⟨cnt P A B x, by omega, rfl⟩
    · exact ⟨cnt P A B x + 1, by omega, rfl⟩
theorem apart8 {N : Nat} (hN : 2 ^ 64 ≤ N) {P A B : Nat} (h1 : 1 ≤ P) (hP : P ≤ 10007) (hc : cnt P A B P ≤ 10298) {t q : Nat → Int32} (hL : LK P A B P t q) (mk f : Nat → Int32) (a : Int32) {u : Int32} (hu : isP P u) {n : Nat} (hn : n ≤ 10300) : ∃ z, mX6_isApart N (nI P) a f t q mk u (nI n) = some z := by
  unfold mX6_isApart
  obtain ⟨o, ho, hq⟩ := mi_run_ok (mX6_isApart_b8 N (nI n) t q mk (nI P) a f u) (fun s => ∃ k, k ≤ n + 1 ∧ s.2.2 = nI k ∧ isP P s.1 ∧ (s.2.1 = 0 ∨ s.2.1 = 1)) (fun o => o.2.1 = 0 ∨ o.2.1 = 1) (fun s => n + 2 - s.2.2.toNatClampNeg) (by
    rintro ⟨x, y, w⟩ ⟨k, hk, e, hx, hy⟩
    have e : w = nI k := e
    have hx : isP P x := hx
    have hy : y = 0 ∨ y = 1 := hy
    subst e
    dsimp only [mX6_isApart_b8, mi_let]
    by_cases c : n ≤ k
    · right; rw [if_pos (nI_le c (by omega))]; exact ⟨_, rfl, hy⟩
    · rw [if_neg (nI_ge (by omega) (by omega))]
      by_cases c2 : y = 0
      · right; rw [if_pos c2]; exact ⟨_, rfl, hy⟩
      · left
        obtain ⟨j, hj, ej⟩ := placeE (N := N) hP hc hL hx
        have hmu : n + 2 - (nI (k + 1)).toNatClampNeg < n + 2 - (nI k).toNatClampNeg := by rw [nI_clamp (by omega), nI_clamp (by omega)]; omega
        have hs := sumF_P N h1 hP a f hx hu
        rw [if_neg c2, ej]; simp only [Option.bind_some]
        rw [if_neg (ix_nI (k := j) (n := 10300) hj (by omega)), sumE N h1 hP]
        simp only [Option.bind_some, nI_1]
        split
        · exact ⟨_, rfl, ⟨k + 1, by omega, rfl, hs, Or.inr rfl⟩, hmu⟩
        · exact ⟨_, rfl, ⟨k + 1, by omega, rfl, hs, Or.inl rfl⟩, hmu⟩) N (u, 1, 1) ⟨1, by omega, rfl, hu, Or.inr rfl⟩ (by show n + 2 - _ < N; omega)
  have hb : ∀ y : Int32, y = 0 ∨ y = 1 → vp_nar .boolean y = y := fun y h => by rcases h with rfl | rfl <;> decide
  rw [ho]; simp only [Option.bind_some]
  rw [if_pos (hb _ hq)]; exact ⟨_, rfl⟩
theorem made35 {N : Nat} (hN : 2 ^ 64 ≤ N) {P A B : Nat} {pm : Int32} {f g pts ah : Nat → Int32} (hCU : CU P A B (nI P) (nI A) (nI B) (nI P) pm f g pts ah) {t q : Nat → Int32} (hL : LK P A B P t q) : ∃ m fst k t' q', mi_run (mX6_made_b35 N (nI P) (nI A) (nI B) f g) N (0, -1, 0, nI (cnt P A B P), t, q) = some (nI m, fst, k, nI (cnt P A B P), t', q') ∧ 0 < m ∧ m ≤ 10298 ∧ isP P fst ∧ LK P A B P t' q' := by
  have hc := cnt_b hCU
  have h1 := hCU.pos.1
  obtain ⟨o, ho, m, e1, h0, hm, e2, e3, hL'⟩ := mi_run_ok (mX6_made_b35 N (nI P) (nI A) (nI B) f g) (fun s => ∃ m k, s.1 = nI m ∧ m ≤ 10298 ∧ isP P s.2.1 ∧ s.2.2.1 = nI k ∧ k ≤ cnt P A B P ∧ (0 < k → 0 < m) ∧ s.2.2.2.1 = nI (cnt P A B P) ∧ LK P A B P s.2.2.2.2.1 s.2.2.2.2.2) (fun o => ∃ m, o.1 = nI m ∧ 0 < m ∧ m ≤ 10298 ∧ isP P o.2.1 ∧ o.2.2.2.1 = nI (cnt P A B P) ∧ LK P A B P o.2.2.2.2.1 o.2.2.2.2.2) (fun s => cnt P A B P + 1 - s.2.2.1.toNatClampNeg) (by
    rintro ⟨s0, s1, s2, s3, s4, s5⟩ ⟨m, k, e0, hm, hf, e1, hk, h0, e2, hL⟩
    have e0 : s0 = nI m := e0
    have e1 : s2 = nI k := e1
    have e2 : s3 = nI (cnt P A B P) := e2
    have hf : isP P s1 := hf
    have hL : LK P A B P s4 s5 := hL
    subst e0 e1 e2
    dsimp only [mX6_made_b35]
    by_cases c : cnt P A B P ≤ k
    · right; rw [if_pos (nI_le c (by omega))]; exact ⟨_, rfl, m, rfl, h0 (by omega), hm, hf, rfl, hL⟩
    · left
      have hi := ix_nI (k := k) (n := 10300) (by omega) (by omega)
      rw [if_neg (nI_ge (by omega) (by omega)), if_neg hi]
      dsimp only [mi_let]
      obtain ⟨n, t', q', eo, hn0, -, hn, -, hL'⟩ := orderE N hN (hCU.listed hL) (s4 (nI k).toNatClampNeg)
      rw [eo]; simp only [Option.bind_some, nI_1]
      have hmu : cnt P A B P + 1 - (nI (k + 1)).toNatClampNeg < cnt P A B P + 1 - (nI k).toNatClampNeg := by rw [nI_clamp (by omega), nI_clamp (by omega)]; omega
      have hp := hL'.isP h1 P (Nat.le_refl P) k (by omega)
      by_cases c2 : nI n ≤ nI m
      · have c3 := (nI_leI (by omega) (by omega)).mp c2
        rw [if_pos c2, if_pos c2]
        exact ⟨_, rfl, ⟨m, k + 1, rfl, hm, hf, rfl, by omega, fun _ => by omega, rfl, hL'⟩, hmu⟩
      · rw [if_neg c2, if_neg hi, if_neg c2]
        exact ⟨_, rfl, ⟨n, k + 1, rfl, hn, by show isP P (t' (nI k).toNatClampNeg); rw [nI_clamp (by omega)]; exact hp, rfl, by omega, fun _ => hn0, rfl, hL'⟩, hmu⟩) N (0, -1, 0, nI (cnt P A B P), t, q) ⟨0, 0, rfl, by omega, Or.inl rfl, rfl, by omega, fun h => absurd h (by omega), rfl, hL⟩ (by show cnt P A B P + 1 - _ < N; omega)
  obtain ⟨o0, o1, o2, o3, o4, o5⟩ := o
  have e1 : o0 = nI m := e1
  have e3 : o3 = nI (cnt P A B P) := e3
  subst e1 e3
  exact ⟨m, o1, o2, o4, o5, ho, h0, hm, e2, hL'⟩
theorem made133 {N : Nat} (hN : 2 ^ 64 ≤ N) {M : Nat} (hM : M ≤ 10298) (mk : Nat → Int32) : ∃ o, mi_run (mX6_made_b133 N (nI M)) N (0, mk) = some o := by
  obtain ⟨o, ho, -⟩ := mi_run_ok (mX6_made_b133 N (nI M)) (fun s => ∃ k, k ≤ M ∧ s.1 = nI k) (fun _ => True) (fun s => M + 1 - s.1.toNatClampNeg) (by
    rintro ⟨w, y⟩ ⟨k, hk, e⟩
    have e : w = nI k := e
    subst e
    dsimp only [mX6_made_b133, mi_let]
    by_cases c : M ≤ k
    · right; rw [if_pos (nI_le c (by omega))]; exact ⟨_, rfl, trivial⟩
    · left
      rw [if_neg (nI_ge (by omega) (by omega)), if_neg (ix_nI (k := k) (n := 10300) (by omega) (by omega))]
      refine ⟨_, rfl, ⟨k + 1, by omega, nI_1 k⟩, ?_⟩
      show M + 1 - (nI k + 1).toNatClampNeg < M + 1 - (nI k).toNatClampNeg
      rw [nI_1, nI_clamp (by omega), nI_clamp (by omega)]; omega) N (0, mk) ⟨0, by omega, rfl⟩ (by show M + 1 - _ < N; omega)
  exact ⟨o, ho⟩
theorem made162 {N : Nat} (hN : 2 ^ 64 ≤ N) {P A B : Nat} (h1 : 1 ≤ P) (hP : P ≤ 10007) (hc : cnt P A B P ≤ 10298) {t q : Nat → Int32} (hL : LK P A B P t q) (mk f : Nat → Int32) (a : Int32) {u : Int32} (hu : isP P u) {n : Nat} (hn : n ≤ 10300) : ∃ o, mi_run (mX6_made_b162 N (nI n) t q (nI P) a f u) N (-1, 0, mk) = some o := by
  obtain ⟨o, ho, -⟩ := mi_run_ok (mX6_made_b162 N (nI n) t q (nI P) a f u) (fun s => ∃ k, k ≤ n + 1 ∧ s.2.1 = nI k ∧ isP P s.1) (fun _ => True) (fun s => n + 2 - s.2.1.toNatClampNeg) (by
    rintro ⟨x, w, y⟩ ⟨k, hk, e, hx⟩
    have e : w = nI k := e
    have hx : isP P x := hx
    subst e
    dsimp only [mX6_made_b162, mi_let]
    by_cases c : n ≤ k
    · right; rw [if_pos (nI_le c (by omega))]; exact ⟨_, rfl, trivial⟩
    · left
      rw [if_neg (nI_ge (by omega) (by omega))]
      obtain ⟨j, hj, ej⟩ := placeE (N := N) hP hc hL hx
      have hmu : n + 2 - (nI (k + 1)).toNatClampNeg < n + 2 - (nI k).toNatClampNeg := by rw [nI_clamp (by omega), nI_clamp (by omega)]; omega
      have hs := sumF_P N h1 hP a f hx hu
      rw [ej]; simp only [Option.bind_some]
      rw [if_neg (ix_nI (k := j) (n := 10300) hj (by omega)), sumE N h1 hP]
      simp only [Option.bind_some, nI_1]
      exact ⟨_, rfl, ⟨k + 1, by omega, rfl, hs⟩, hmu⟩) N (-1, 0, mk) ⟨0, by omega, rfl, Or.inl rfl⟩ (by show n + 2 - _ < N; omega)
  exact ⟨o, ho⟩
theorem made199 {N : Nat} (hN : 2 ^ 64 ≤ N) {P A B : Nat} {pm : Int32} {f g pts ah : Nat → Int32} (hCU : CU P A B (nI P) (nI A) (nI B) (nI P) pm f g pts ah) {t q : Nat → Int32} (hL : LK P A B P t q) (mk : Nat → Int32) {v : Nat} (hv : v ≤ 10300) : ∃ o, mi_run (mX6_made_b199 N (nI P) (nI A) (nI B) f g (nI v) mk (nI P)) N (0, nI (cnt P A B P), t, q) = some o ∧ (∀ y, o = .inl y → y.2.1 = nI (cnt P A B P) ∧ LK P A B P y.2.2.1 y.2.2.2) ∧ (∀ z, o = .inr z → ∃ w t' q', z = (w, nI P, nI A, nI B, nI P, nI (cnt P A B P), f, g, t', q', mk) ∧ LK P A B P t' q') := by
  have hc := cnt_b hCU
  have h1 := hCU.pos.1
  have hP := hCU.pos.2.1
  obtain ⟨o, ho, hq⟩ := mi_run_ok (mX6_made_b199 N (nI P) (nI A) (nI B) f g (nI v) mk (nI P)) (fun s => ∃ k, k ≤ cnt P A B P ∧ s.1 = nI k ∧ s.2.1 = nI (cnt P A B P) ∧ LK P A B P s.2.2.1 s.2.2.2) (fun o => (∀ y, o = .inl y → y.2.1 = nI (cnt P A B P) ∧ LK P A B P y.2.2.1 y.2.2.2) ∧ (∀ z, o = .inr z → ∃ w t' q', z = (w, nI P, nI A, nI B, nI P, nI (cnt P A B P), f, g, t', q', mk) ∧ LK P A B P t' q')) (fun s => cnt P A B P + 1 - s.1.toNatClampNeg) (by
    rintro ⟨s1, s2, s3, s4⟩ ⟨k, hk, e1, e2, hL⟩
    have e1 : s1 = nI k := e1
    have e2 : s2 = nI (cnt P A B P) := e2
    have hL : LK P A B P s3 s4 := hL
    subst e1 e2
    dsimp only [mX6_made_b199]
    by_cases c : cnt P A B P ≤ k
    · right; rw [if_pos (nI_le c (by omega))]
      exact ⟨_, rfl, ⟨fun y hy => by have := Sum.inl.inj hy; subst this; exact ⟨rfl, hL⟩, fun z hz => (nomatch hz)⟩⟩
    · have hi := ix_nI (k := k) (n := 10300) (by omega) (by omega)
      rw [if_neg (nI_ge (by omega) (by omega)), if_neg hi]
      dsimp only [mi_let]
      obtain ⟨n, t', q', eo, -, -, -, -, hL'⟩ := orderE N hN (hCU.listed hL) (s3 (nI k).toNatClampNeg)
      rw [eo]; simp only [Option.bind_some, nI_1]
      have hmu : cnt P A B P + 1 - (nI (k + 1)).toNatClampNeg < cnt P A B P + 1 - (nI k).toNatClampNeg := by rw [nI_clamp (by omega), nI_clamp (by omega)]; omega
      by_cases c2 : nI n = nI v
      · rw [if_pos c2, if_neg hi]
        have hp : isP P (t' (nI k).toNatClampNeg) := by rw [nI_clamp (by omega)]; exact hL'.isP h1 P (Nat.le_refl P) k (by omega)
        obtain ⟨z, ez⟩ := apart8 hN h1 hP hc.2 hL' mk f (nI A) hp hv
        rw [ez]; simp only [Option.bind_some]
        by_cases c3 : z = 0
        · left; rw [if_pos c3]
          exact ⟨_, rfl, ⟨k + 1, by omega, rfl, rfl, hL'⟩, hmu⟩
        · right; rw [if_neg c3, if_neg hi]
          exact ⟨_, rfl, ⟨fun y hy => (nomatch hy), fun z hz => ⟨_, _, _, (Sum.inr.inj hz).symm, hL'⟩⟩⟩
      · left; rw [if_neg c2]
        exact ⟨_, rfl, ⟨k + 1, by omega, rfl, rfl, hL'⟩, hmu⟩) N (0, nI (cnt P A B P), t, q) ⟨0, by omega, rfl, rfl, hL⟩ (by show cnt P A B P + 1 - _ < N; omega)
  exact ⟨o, ho, hq.1, hq.2⟩
theorem T_made {N : Nat} (hN : 2 ^ 64 ≤ N) {cu : Int32} {ps as bs : Nat → Int32} (hS : ST cu ps as bs) {p a b rt pm : Int32} {f g pts ah : Nat → Int32} (hC : CUR p a b rt pm f g pts ah) (mk : Nat → Int32) (c x : Int32) : ∃ r p1 a1 b1 rt1 pm1 f1 g1 t1 q1 mk1, mX6_made N p a b rt pm cu f g pts ah ps as bs mk c x = some (r, p1, a1, b1, rt1, pm1, f1, g1, t1, q1, mk1) ∧ CUR p1 a1 b1 rt1 pm1 f1 g1 t1 q1 := by
  unfold mX6_made
  rcases has_spec N (by omega) hS hC c with e | ⟨P, A, B, pm', f', g', e, hCU, hix⟩
  · rw [e]; simp only [Option.bind_some, if_true]; exact ⟨_, _, _, _, _, _, _, _, _, _, _, rfl, hC⟩
  · have h1 := hCU.pos.1
    have hP := hCU.pos.2.1
    have hcnt := cnt_b hCU
    have fin : ∀ r0 : Int32, ∃ r p1 a1 b1 rt1 pm1 f1 g1 t1 q1 mk1, some (r0, nI P, nI A, nI B, nI P, pm', f', g', pts, ah, mk) = some (r, p1, a1, b1, rt1, pm1, f1, g1, t1, q1, mk1) ∧ CUR p1 a1 b1 rt1 pm1 f1 g1 t1 q1 := fun r0 => ⟨_, _, _, _, _, _, _, _, _, _, _, rfl, Or.inr ⟨P, A, B, hCU⟩⟩
    have finL : ∀ (r0 : Int32) (t0 q0 k0 : Nat → Int32), LK P A B P t0 q0 → ∃ r p1 a1 b1 rt1 pm1 f1 g1 t1 q1 mk1, some (r0, nI P, nI A, nI B, nI P, nI (cnt P A B P), f', g', t0, q0, k0) = some (r, p1, a1, b1, rt1, pm1, f1, g1, t1, q1, mk1) ∧ CUR p1 a1 b1 rt1 pm1 f1 g1 t1 q1 := fun r0 t0 q0 k0 hL => ⟨_, _, _, _, _, _, _, _, _, _, _, rfl, Or.inr ⟨P, A, B, hCU.listed hL⟩⟩
    rw [e]; simp only [Option.bind_some, show ((1 : Int32) = 0) = False from by decide, if_false]
    rw [inE]; simp only [Option.bind_some]
    by_cases k : inF x.toInt64 0 3 = 0
    · rw [if_pos k]; exact fin _
    · rw [if_neg k]
      obtain ⟨t, q, el, hCL, hL⟩ := listE N (by omega) hCU
      rw [el]; simp only [Option.bind_some]
      obtain ⟨m, fst, k1, t2, q2, em, hm0, hm, hfst, hL2⟩ := made35 hN hCU hL
      rw [em]; simp only [Option.bind_some]
      rw [if_neg (nI_ne0 hm0 (by omega))]
      dsimp only [mi_let]
      rw [pk_div (by omega) hm0 (by omega)]
      have hv : cnt P A B P / m ≤ 10300 := Nat.le_trans (Nat.div_le_self _ _) (by omega)
      obtain ⟨⟨o1, o2⟩, eo⟩ := made133 hN hcnt.2 mk
      obtain ⟨⟨w1, w2, w3⟩, ew⟩ := made162 hN h1 hP hcnt.2 hL2 o2 f' (nI A) hfst (show m ≤ 10300 by omega)
      obtain ⟨v, ev, hv1, hv2⟩ := made199 hN hCU hL2 w3 hv
      split
      · rw [eo]; simp only [Option.bind_some]
        rw [ew]; simp only [Option.bind_some]
        rw [ev]; simp only [Option.bind_some]
        rcases v with ⟨y1, y2, y3, y4⟩ | z
        · have := hv1 _ rfl
          have e2 : y2 = nI (cnt P A B P) := this.1
          subst e2
          exact finL _ _ _ _ this.2
        · obtain ⟨w, t', q', hz, hL'⟩ := hv2 z rfl
          subst hz
          exact finL _ _ _ _ hL'
      · split
        · exact finL _ _ _ _ hL2
        · split
          all_goals exact finL _ _ _ _ hL2
