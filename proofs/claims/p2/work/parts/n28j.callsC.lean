/-! points that are told, and the list -/
theorem isP_on {N P A B : Nat} (h1 : 1 ≤ P) (hP : P ≤ 10007) (hA : A < P) (hB : B < P) {u : Int32} (h : ¬ isPF N P (nI A) (nI B) u = 0) : u = -1 ∨ ∃ x y, x < P ∧ y < P ∧ u = nI (16384 * x + y) ∧ y * y % P = cub P A B x := by
  unfold isPF mX6_isPoint at h
  by_cases c1 : u = -1
  · exact Or.inl c1
  · right
    dsimp only [mi_let] at h
    rw [if_neg c1] at h
    by_cases c2 : u < 0
    · rw [if_pos c2] at h; exact absurd rfl h
    · rw [if_neg c2] at h
      obtain ⟨j, hj, rfl⟩ := nI_of c2
      rw [show (16384 : Int32) = nI 16384 from rfl, pk_div hj (by omega) (by omega), rem_nI hj (by omega) (by omega)] at h
      by_cases c3 : nI P ≤ nI (j / 16384)
      · rw [if_pos c3] at h; exact absurd rfl h
      · rw [if_neg c3] at h
        have hx : j / 16384 < P := Nat.lt_of_not_le fun q => c3 (nI_le q (by omega))
        by_cases c4 : nI (j % 16384) < nI P
        · rw [if_pos c4] at h
          have hy : j % 16384 < P := (nI_ltI (by omega) (by omega)).mp c4
          have hm := mul_lt hy hy hP
          rw [mulM N P _ _ h1 hP (by omega) (by omega) (by omega)] at h
          simp only [Option.bind_some] at h
          rw [rightM N P A B _ h1 hP hA hB hx] at h
          simp only [Option.bind_some] at h
          by_cases c5 : nI (j % 16384 * (j % 16384) % P) = nI (cub P A B (j / 16384))
          · have hc := cub_lt P A B (j / 16384) h1
            have hm2 : j % 16384 * (j % 16384) % P < P := Nat.mod_lt _ h1
            exact ⟨j / 16384, j % 16384, hx, hy, by congr 1; omega, (nI_eq (by omega) (by omega)).mp c5⟩
          · rw [if_neg c5] at h; exact absurd rfl h
        · rw [if_neg c4] at h; exact absurd rfl h
theorem two_roots {P : Nat} (hp : isp P) (h5 : 5 ≤ P) {r y : Nat} (hr : r < P) (hy : y < P) (h : y * y % P = r * r % P) : y = r ∨ (0 < r ∧ y = P - r) := by
  have hd : (P : Int) ∣ ((y : Int) - r) * ((y : Int) + r) := by
    have h2 : ((y * y % P : Nat) : Int) = ((r * r % P : Nat) : Int) := by rw [h]
    rw [Int.natCast_emod, Int.natCast_emod] at h2
    have h3 := Int.dvd_of_emod_eq_zero (Int.emod_eq_emod_iff_emod_sub_eq_zero.mp h2)
    rwa [show ((y : Int) - r) * ((y : Int) + r) = ((y * y : Nat) : Int) - ((r * r : Nat) : Int) by push_cast; grind]
  rcases pr_E hp (by omega) _ _ hd with c | c
  · left
    rcases Nat.le_total r y with q | q
    · rw [show ((y : Int) - r) = ((y - r : Nat) : Int) by omega] at c
      have := Int.ofNat_dvd.mp c
      by_cases z : y - r = 0
      · omega
      · have := Nat.le_of_dvd (by omega) this; omega
    · have c := Int.dvd_neg.mpr c
      rw [Int.neg_sub, show ((r : Int) - y) = ((r - y : Nat) : Int) by omega] at c
      have := Int.ofNat_dvd.mp c
      by_cases z : r - y = 0
      · omega
      · have := Nat.le_of_dvd (by omega) this; omega
  · rw [show ((y : Int) + r) = ((y + r : Nat) : Int) by omega] at c
    have := Int.ofNat_dvd.mp c
    by_cases z : y + r = 0
    · left; omega
    · have h4 := Nat.le_of_dvd (by omega) this
      obtain ⟨m, hm⟩ := this
      have hm1 : m = 1 := by
        have : m < 2 := by
          refine Nat.lt_of_not_le fun q => ?_
          have := Nat.mul_le_mul_left P q
          omega
        have : m ≠ 0 := fun q => by rw [q, Nat.mul_zero] at hm; omega
        omega
      rw [hm1, Nat.mul_one] at hm
      by_cases w : r = 0
      · omega
      · right; omega
theorem cnt_at {P A B x : Nat} (hx : x < P) : cnt P A B x + wt P (cub P A B x) ≤ cnt P A B P := cnt_mono P A B (k := x + 1) (by omega)
theorem root_of {P v y : Nat} (hy : y < P) (h : y * y % P = v) : ∃ r, isR P v r := by
  obtain ⟨r, ⟨r1, r2⟩, hmin⟩ := least_ex (p := fun r => r < P ∧ r * r % P = v) y ⟨hy, h⟩
  exact ⟨r, r1, r2, fun s hs e => hmin s hs ⟨by omega, e⟩⟩
/-- a point is in the list -/
theorem LK.mem {P A B : Nat} (hp : isp P) (h5 : 5 ≤ P) {pts ah : Nat → Int32} (hL : LK P A B P pts ah) {x y : Nat} (hx : x < P) (hy : y < P) (h : y * y % P = cub P A B x) : ∃ k, k < cnt P A B P ∧ pts k = nI (16384 * x + y) := by
  obtain ⟨r, hR⟩ := root_of hy h
  obtain ⟨q1, q2⟩ := (hL.2 x hx).2 r hR
  have hw := wt_of_isR hR (by omega)
  have hc := cnt_at (P := P) (A := A) (B := B) hx
  rcases two_roots hp h5 hR.1 hy (h.trans hR.2.1.symm) with e | ⟨e0, e⟩
  · exact ⟨cnt P A B x, by omega, by rw [q1, e]⟩
  · exact ⟨cnt P A B x + 1, by omega, by rw [q2 e0, e]; congr 1; have := hR.1; omega⟩
/-- what is in the list is a point -/
theorem LK.isP {P A B : Nat} (h1 : 1 ≤ P) {pts ah : Nat → Int32} (hL : LK P A B P pts ah) : ∀ x, x ≤ P → ∀ k, k < cnt P A B x → isP P (pts k)
  | 0, _, k, hk => by
    have : k = 0 := by have : cnt P A B 0 = 1 := rfl; omega
    rw [this]; exact Or.inl hL.1
  | x + 1, hx, k, hk => by
    by_cases c : k < cnt P A B x
    · exact LK.isP h1 hL x (by omega) k c
    · have hs : cnt P A B (x + 1) = cnt P A B x + wt P (cub P A B x) := rfl
      have hw0 : wt P (cub P A B x) ≠ 0 := by omega
      have hsq : ∃ y, y < P ∧ y * y % P = cub P A B x := by
        unfold wt at hw0
        by_cases c1 : cub P A B x = 0
        · exact ⟨0, by omega, by rw [c1]; simp⟩
        · rw [if_neg c1] at hw0
          by_cases c2 : sqb P (cub P A B x) = true
          · exact sqb_iff.mp c2
          · rw [if_neg c2] at hw0; exact absurd rfl hw0
      obtain ⟨y, hy, hyy⟩ := hsq
      obtain ⟨r, hR⟩ := root_of hy hyy
      obtain ⟨q1, q2⟩ := (hL.2 x (by omega)).2 r hR
      have hw := wt_of_isR hR h1
      have hr := hR.1
      by_cases e : k = cnt P A B x
      · rw [e, q1]; exact Or.inr ⟨x, r, by omega, hr, rfl⟩
      · have e2 : k = cnt P A B x + 1 := by rcases hw with w | w <;> omega
        have hr0 : 0 < r := by rcases hw with w | w <;> omega
        rw [e2, q2 hr0]; exact Or.inr ⟨x, P - r, by omega, by omega, by congr 1; omega⟩
theorem rank25 {N : Nat} (hN : 2 ^ 64 ≤ N) {M : Nat} (hM : M ≤ 10298) (t : Nat → Int32) (u : Int32) (h : ∃ k, k < M ∧ t k = u) : ∃ o, mi_run (mX6_rank_b25 N t u) N 0 = some o := by
  obtain ⟨k0, hk0, e0⟩ := h
  obtain ⟨o, ho, -⟩ := mi_run_ok (mX6_rank_b25 N t u) (fun s => ∃ k, k ≤ k0 ∧ s = nI k) (fun _ => True) (fun s => k0 + 1 - s.toNatClampNeg) (by
    rintro _ ⟨k, hk, rfl⟩
    dsimp only [mX6_rank_b25, mi_let]
    rw [if_neg (ix_nI (k := k) (n := 10300) (by omega) (by omega)), nI_clamp (by omega)]
    by_cases c : t k = u
    · right; rw [if_pos c]; exact ⟨_, rfl, trivial⟩
    · left
      rw [if_neg c]
      have hne : k ≠ k0 := fun e => c (e ▸ e0)
      refine ⟨_, rfl, ⟨k + 1, by omega, nI_1 k⟩, ?_⟩
      rw [nI_1, nI_clamp (by omega)]; omega) N 0 ⟨0, by omega, rfl⟩ (by show k0 + 1 - _ < N; omega)
  exact ⟨o, ho⟩
theorem T_rank {N : Nat} (hN : 2 ^ 64 ≤ N) {cu : Int32} {ps as bs : Nat → Int32} (hS : ST cu ps as bs) {p a b rt pm : Int32} {f g pts ah : Nat → Int32} (hC : CUR p a b rt pm f g pts ah) (c : Int32) (x : Int32) : ∃ r p1 a1 b1 rt1 pm1 f1 g1 t1 q1, mX6_rank N p a b rt pm cu f g pts ah ps as bs c x = some (r, p1, a1, b1, rt1, pm1, f1, g1, t1, q1) ∧ CUR p1 a1 b1 rt1 pm1 f1 g1 t1 q1 := by
  unfold mX6_rank
  rcases has_spec N (by omega) hS hC c with e | ⟨P, A, B, pm', f', g', e, hCU, hix⟩
  · rw [e]; simp only [Option.bind_some]; rw [if_pos trivial]; exact ⟨_, _, _, _, _, _, _, _, _, _, rfl, hC⟩
  · have h1 := hCU.pos.1
    have hP := hCU.pos.2.1
    have fin : ∀ r0 : Int32, ∃ r p1 a1 b1 rt1 pm1 f1 g1 t1 q1, some (r0, nI P, nI A, nI B, nI P, pm', f', g', pts, ah) = some (r, p1, a1, b1, rt1, pm1, f1, g1, t1, q1) ∧ CUR p1 a1 b1 rt1 pm1 f1 g1 t1 q1 := fun r0 => ⟨_, _, _, _, _, _, _, _, _, _, rfl, Or.inr ⟨P, A, B, hCU⟩⟩
    have finL : ∀ (r0 : Int32) (t0 q0 : Nat → Int32), LK P A B P t0 q0 → ∃ r p1 a1 b1 rt1 pm1 f1 g1 t1 q1, some (r0, nI P, nI A, nI B, nI P, nI (cnt P A B P), f', g', t0, q0) = some (r, p1, a1, b1, rt1, pm1, f1, g1, t1, q1) ∧ CUR p1 a1 b1 rt1 pm1 f1 g1 t1 q1 := fun r0 t0 q0 hL => ⟨_, _, _, _, _, _, _, _, _, _, rfl, Or.inr ⟨P, A, B, hCU.listed hL⟩⟩
    have hcnt := cnt_b hCU
    rw [e]; simp only [Option.bind_some]; rw [if_neg (by decide)]
    rw [isPE N h1 hP]; simp only [Option.bind_some]
    by_cases k : isPF N P (nI A) (nI B) x = 0
    · rw [if_pos k]; exact fin _
    · rw [if_neg k]
      obtain ⟨t, q, el, hCL, hL⟩ := listE N (by omega) hCU
      rw [el]; simp only [Option.bind_some]
      have hmem : ∃ k, k < cnt P A B P ∧ t k = x := by
        rcases isP_on h1 hP hCU.pos.2.2.2.2.1 hCU.pos.2.2.2.2.2 k with e | ⟨x1, y1, hx1, hy1, e, hyy⟩
        · exact ⟨0, hcnt.1, by rw [e]; exact hL.1⟩
        · rw [e]; exact hL.mem hCU.pos.2.2.2.1 hCU.pos.2.2.1 hx1 hy1 hyy
      obtain ⟨o, eo⟩ := rank25 hN hcnt.2 t x hmem
      rw [eo]; simp only [Option.bind_some]
      exact finL _ _ _ hL
theorem ofo25 {N : Nat} (hN : 2 ^ 64 ≤ N) {P A B : Nat} {pm : Int32} {f g pts ah : Nat → Int32} (hCU : CU P A B (nI P) (nI A) (nI B) (nI P) pm f g pts ah) {t q : Nat → Int32} (hL : LK P A B P t q) (x : Int32) (hx : ¬ x = 0) : ∃ o, mi_run (mX6_ofOrder_b25 N x (nI P) (nI A) (nI B) f g) N (0, 0, nI (cnt P A B P), t, q) = some o ∧ o.2.2.1 = nI (cnt P A B P) ∧ LK P A B P o.2.2.2.1 o.2.2.2.2 := by
  have hc := cnt_b hCU
  obtain ⟨o, ho, hq⟩ := mi_run_ok (mX6_ofOrder_b25 N x (nI P) (nI A) (nI B) f g) (fun s => ∃ k, k ≤ cnt P A B P ∧ s.2.1 = nI k ∧ s.2.2.1 = nI (cnt P A B P) ∧ LK P A B P s.2.2.2.1 s.2.2.2.2) (fun o => o.2.2.1 = nI (cnt P A B P) ∧ LK P A B P o.2.2.2.1 o.2.2.2.2) (fun s => cnt P A B P + 1 - s.2.1.toNatClampNeg) (by
    rintro ⟨s0, s1, s2, s3, s4⟩ ⟨k, hk, e1, e2, hL⟩
    have e1 : s1 = nI k := e1
    have e2 : s2 = nI (cnt P A B P) := e2
    have hL : LK P A B P s3 s4 := hL
    subst e1 e2
    dsimp only [mX6_ofOrder_b25]
    by_cases c : cnt P A B P ≤ k
    · right; rw [if_pos (nI_le c (by omega))]; exact ⟨_, rfl, rfl, hL⟩
    · rw [if_neg (nI_ge (by omega) (by omega)), if_neg hx]
      dsimp only [mi_let]
      by_cases c2 : mi_rem (nI (cnt P A B P)) x = 0
      · left
        rw [if_pos c2, if_neg (ix_nI (k := k) (n := 10300) (by omega) (by omega))]
        obtain ⟨n, t', q', eo, -, -, -, -, hL'⟩ := orderE N hN (hCU.listed hL) (s3 (nI k).toNatClampNeg)
        rw [eo]; simp only [Option.bind_some, nI_1]
        have hmu : cnt P A B P + 1 - (nI (k + 1)).toNatClampNeg < cnt P A B P + 1 - (nI k).toNatClampNeg := by rw [nI_clamp (by omega), nI_clamp (by omega)]; omega
        split
        · exact ⟨_, rfl, ⟨k + 1, by omega, rfl, rfl, hL'⟩, hmu⟩
        · exact ⟨_, rfl, ⟨k + 1, by omega, rfl, rfl, hL'⟩, hmu⟩
      · right; rw [if_neg c2]; exact ⟨_, rfl, rfl, hL⟩) N (0, 0, nI (cnt P A B P), t, q) ⟨0, by omega, rfl, rfl, hL⟩ (by show cnt P A B P + 1 - _ < N; omega)
  exact ⟨o, ho, hq⟩
theorem T_ofOrder {N : Nat} (hN : 2 ^ 64 ≤ N) {cu : Int32} {ps as bs : Nat → Int32} (hS : ST cu ps as bs) {p a b rt pm : Int32} {f g pts ah : Nat → Int32} (hC : CUR p a b rt pm f g pts ah) (c : Int32) (x : Int32) : ∃ r p1 a1 b1 rt1 pm1 f1 g1 t1 q1, mX6_ofOrder N p a b rt pm cu f g pts ah ps as bs c x = some (r, p1, a1, b1, rt1, pm1, f1, g1, t1, q1) ∧ CUR p1 a1 b1 rt1 pm1 f1 g1 t1 q1 := by
  unfold mX6_ofOrder
  rcases has_spec N (by omega) hS hC c with e | ⟨P, A, B, pm', f', g', e, hCU, hix⟩
  · rw [e]; simp only [Option.bind_some]; rw [if_pos trivial]; exact ⟨_, _, _, _, _, _, _, _, _, _, rfl, hC⟩
  · have h1 := hCU.pos.1
    have hP := hCU.pos.2.1
    have fin : ∀ r0 : Int32, ∃ r p1 a1 b1 rt1 pm1 f1 g1 t1 q1, some (r0, nI P, nI A, nI B, nI P, pm', f', g', pts, ah) = some (r, p1, a1, b1, rt1, pm1, f1, g1, t1, q1) ∧ CUR p1 a1 b1 rt1 pm1 f1 g1 t1 q1 := fun r0 => ⟨_, _, _, _, _, _, _, _, _, _, rfl, Or.inr ⟨P, A, B, hCU⟩⟩
    have finL : ∀ (r0 : Int32) (t0 q0 : Nat → Int32), LK P A B P t0 q0 → ∃ r p1 a1 b1 rt1 pm1 f1 g1 t1 q1, some (r0, nI P, nI A, nI B, nI P, nI (cnt P A B P), f', g', t0, q0) = some (r, p1, a1, b1, rt1, pm1, f1, g1, t1, q1) ∧ CUR p1 a1 b1 rt1 pm1 f1 g1 t1 q1 := fun r0 t0 q0 hL => ⟨_, _, _, _, _, _, _, _, _, _, rfl, Or.inr ⟨P, A, B, hCU.listed hL⟩⟩
    have hcnt := cnt_b hCU
    rw [e]; simp only [Option.bind_some]; rw [if_neg (by decide)]
    by_cases k : 1 ≤ x
    · rw [if_pos k]
      obtain ⟨t, q, el, hCL, hL⟩ := listE N (by omega) hCU
      rw [el]; simp only [Option.bind_some]
      have hx : ¬ x = 0 := fun z => by rw [z] at k; exact absurd k (by decide)
      obtain ⟨⟨o0, o1, o2, o3, o4⟩, eo, hq1, hq2⟩ := ofo25 hN hCU hL x hx
      rw [eo]; simp only [Option.bind_some]
      rw [show o2 = nI (cnt P A B P) from hq1]
      exact finL _ _ _ hq2
    · rw [if_neg k]; exact fin _
theorem prf36 {N : Nat} (hN : 2 ^ 64 ≤ N) {P A B : Nat} {pm : Int32} {f g pts ah : Nat → Int32} (hCU : CU P A B (nI P) (nI A) (nI B) (nI P) pm f g pts ah) {t q : Nat → Int32} (hL : LK P A B P t q) : ∃ o, mi_run (mX6_proof_b36 N (nI P) (nI A) (nI B) f g (nI P)) N (0, nI (cnt P A B P), t, q) = some o ∧ (∀ y, o = .inl y → y.2.1 = nI (cnt P A B P) ∧ LK P A B P y.2.2.1 y.2.2.2) ∧ (∀ z, o = .inr z → ∃ w t' q', z = (w, nI P, nI A, nI B, nI P, nI (cnt P A B P), f, g, t', q') ∧ LK P A B P t' q') := by
  have hc := cnt_b hCU
  obtain ⟨o, ho, hq⟩ := mi_run_ok (mX6_proof_b36 N (nI P) (nI A) (nI B) f g (nI P)) (fun s => ∃ k, k ≤ cnt P A B P ∧ s.1 = nI k ∧ s.2.1 = nI (cnt P A B P) ∧ LK P A B P s.2.2.1 s.2.2.2) (fun o => (∀ y, o = .inl y → y.2.1 = nI (cnt P A B P) ∧ LK P A B P y.2.2.1 y.2.2.2) ∧ (∀ z, o = .inr z → ∃ w t' q', z = (w, nI P, nI A, nI B, nI P, nI (cnt P A B P), f, g, t', q') ∧ LK P A B P t' q')) (fun s => cnt P A B P + 1 - s.1.toNatClampNeg) (by
    rintro ⟨s1, s2, s3, s4⟩ ⟨k, hk, e1, e2, hL⟩
    have e1 : s1 = nI k := e1
    have e2 : s2 = nI (cnt P A B P) := e2
    have hL : LK P A B P s3 s4 := hL
    subst e1 e2
    dsimp only [mX6_proof_b36]
    by_cases c : cnt P A B P ≤ k
    · right; rw [if_pos (nI_le c (by omega))]
      refine ⟨_, rfl, fun y hy => ?_, fun z hz => by cases hz⟩
      have := Sum.inl.inj hy; subst this; exact ⟨rfl, hL⟩
    · have hi := ix_nI (k := k) (n := 10300) (by omega) (by omega)
      rw [if_neg (nI_ge (by omega) (by omega)), if_neg hi]
      dsimp only [mi_let]
      obtain ⟨z, t', q', eo, -, hL'⟩ := provesE N hN (hCU.listed hL) (s3 (nI k).toNatClampNeg)
      rw [eo]; simp only [Option.bind_some, nI_1]
      have hmu : cnt P A B P + 1 - (nI (k + 1)).toNatClampNeg < cnt P A B P + 1 - (nI k).toNatClampNeg := by rw [nI_clamp (by omega), nI_clamp (by omega)]; omega
      by_cases c2 : z = 0
      · left; rw [if_pos c2]
        exact ⟨_, rfl, ⟨k + 1, by omega, rfl, rfl, hL'⟩, hmu⟩
      · right; rw [if_neg c2, if_neg hi]
        exact ⟨_, rfl, ⟨fun y hy => (nomatch hy), fun z hz => ⟨_, _, _, (Sum.inr.inj hz).symm, hL'⟩⟩⟩) N (0, nI (cnt P A B P), t, q) ⟨0, by omega, rfl, rfl, hL⟩ (by show cnt P A B P + 1 - _ < N; omega)
  exact ⟨o, ho, hq.1, hq.2⟩
theorem T_proof {N : Nat} (hN : 2 ^ 64 ≤ N) {cu : Int32} {ps as bs : Nat → Int32} (hS : ST cu ps as bs) {p a b rt pm : Int32} {f g pts ah : Nat → Int32} (hC : CUR p a b rt pm f g pts ah) (c : Int32) (x : Int32) : ∃ r p1 a1 b1 rt1 pm1 f1 g1 t1 q1, mX6_proof N p a b rt pm cu f g pts ah ps as bs c x = some (r, p1, a1, b1, rt1, pm1, f1, g1, t1, q1) ∧ CUR p1 a1 b1 rt1 pm1 f1 g1 t1 q1 := by
  unfold mX6_proof
  rcases has_spec N (by omega) hS hC c with e | ⟨P, A, B, pm', f', g', e, hCU, hix⟩
  · rw [e]; simp only [Option.bind_some]; rw [if_pos trivial]; exact ⟨_, _, _, _, _, _, _, _, _, _, rfl, hC⟩
  · have h1 := hCU.pos.1
    have hP := hCU.pos.2.1
    have fin : ∀ r0 : Int32, ∃ r p1 a1 b1 rt1 pm1 f1 g1 t1 q1, some (r0, nI P, nI A, nI B, nI P, pm', f', g', pts, ah) = some (r, p1, a1, b1, rt1, pm1, f1, g1, t1, q1) ∧ CUR p1 a1 b1 rt1 pm1 f1 g1 t1 q1 := fun r0 => ⟨_, _, _, _, _, _, _, _, _, _, rfl, Or.inr ⟨P, A, B, hCU⟩⟩
    have finL : ∀ (r0 : Int32) (t0 q0 : Nat → Int32), LK P A B P t0 q0 → ∃ r p1 a1 b1 rt1 pm1 f1 g1 t1 q1, some (r0, nI P, nI A, nI B, nI P, nI (cnt P A B P), f', g', t0, q0) = some (r, p1, a1, b1, rt1, pm1, f1, g1, t1, q1) ∧ CUR p1 a1 b1 rt1 pm1 f1 g1 t1 q1 := fun r0 t0 q0 hL => ⟨_, _, _, _, _, _, _, _, _, _, rfl, Or.inr ⟨P, A, B, hCU.listed hL⟩⟩
    have hcnt := cnt_b hCU
    rw [e]; simp only [Option.bind_some]; rw [if_neg (by decide)]
    rw [inE]; simp only [Option.bind_some]
    by_cases k : inF x.toInt64 0 1 = 0
    · rw [if_pos k]; exact fin _
    · rw [if_neg k]
      by_cases k2 : x = 1
      · rw [if_pos k2]
        obtain ⟨A2, B2, pm2, f2, g2, et, hCU2⟩ := turn_spec N (by omega) hCU
        rw [et]; simp only [Option.bind_some]
        obtain ⟨t, q, el, hCL, hL⟩ := listE N (by omega) hCU2
        rw [el]; simp only [Option.bind_some]
        obtain ⟨o, eo, ho1, ho2⟩ := prf36 hN hCU2 hL
        rw [eo]; simp only [Option.bind_some]
        rcases o with ⟨y1, y2, y3, y4⟩ | z
        · have := ho1 _ rfl
          have e2 : y2 = nI (cnt P A2 B2 P) := this.1
          subst e2
          exact ⟨_, _, _, _, _, _, _, _, _, _, rfl, Or.inr ⟨P, A2, B2, hCU2.listed this.2⟩⟩
        · obtain ⟨w, t', q', hz, hL'⟩ := ho2 z rfl
          subst hz
          exact ⟨_, _, _, _, _, _, _, _, _, _, rfl, Or.inr ⟨P, A2, B2, hCU2.listed hL'⟩⟩
      · rw [if_neg k2]
        obtain ⟨t, q, el, hCL, hL⟩ := listE N (by omega) hCU
        rw [el]; simp only [Option.bind_some]
        obtain ⟨o, eo, ho1, ho2⟩ := prf36 hN hCU hL
        rw [eo]; simp only [Option.bind_some]
        rcases o with ⟨y1, y2, y3, y4⟩ | z
        · have := ho1 _ rfl
          have e2 : y2 = nI (cnt P A B P) := this.1
          subst e2
          exact ⟨_, _, _, _, _, _, _, _, _, _, rfl, Or.inr ⟨P, A, B, hCU.listed this.2⟩⟩
        · obtain ⟨w, t', q', hz, hL'⟩ := ho2 z rfl
          subst hz
          exact ⟨_, _, _, _, _, _, _, _, _, _, rfl, Or.inr ⟨P, A, B, hCU.listed hL'⟩⟩
theorem shr32 (x : Int32) : (x >>> ((1 : Int32) &&& 31)).toInt = x.toInt / 2 := by
  have h : ((1 : Int32) &&& 31) = 1 := by decide
  rw [h, pk_shr x 1 1 (by decide), Int.shiftRight_eq_div_pow]; rfl
theorem over13 {N : Nat} (hN : 2 ^ 64 ≤ N) {n : Int32} (hz : ¬ n.toInt64 = 0) (x y : Int64) (w : Int32) : ∃ o, mi_run (mX6_over_b13 N n) N (x, y, w) = some o := by
  obtain ⟨o, ho, -⟩ := mi_run_ok (mX6_over_b13 N n) (fun _ => True) (fun _ => True) (fun s => s.2.2.toInt.toNat) (by
    rintro ⟨x, y, w⟩ -
    dsimp only [mX6_over_b13, mi_let]
    by_cases c : w ≤ 0
    · right; rw [if_pos c]; exact ⟨_, rfl, trivial⟩
    · left
      rw [if_neg c]
      have c' : 0 < w.toInt := by
        refine Int.not_le.mp fun h => c (Int32.le_iff_toInt_le.mpr (by simpa using h))
      have hs := shr32 w
      have hmu : (w >>> ((1 : Int32) &&& 31)).toInt.toNat < w.toInt.toNat := by rw [hs]; omega
      simp only [if_neg hz]
      split
      all_goals exact ⟨_, rfl, trivial, hmu⟩) N (x, y, w) trivial (by
    show w.toInt.toNat < N
    have := Int32.toInt_lt w; omega)
  exact ⟨o, ho⟩
theorem overA {N : Nat} (hN : 2 ^ 64 ≤ N) {n : Nat} (h0 : 0 < n) (hn : n ≤ 10300) (v : Int32) : ∃ z, mX6_over N v (nI n) = some z := by
  have hz : ¬ nI n = 0 := nI_ne0 h0 (by omega)
  have hl : ¬ (nI n).toInt64 = 0 := by
    rw [nI_l (by omega)]; intro h
    have := (lN_eq (a := n) (b := 0) (by omega) (by omega)).mp h
    omega
  unfold mX6_over
  dsimp only [mi_let]
  rw [if_neg hz]
  obtain ⟨o, ho⟩ := over13 hN hl 1 (mi_rem v (nI n)).toInt64 (nI n - 2)
  rw [ho]; simp only [Option.bind_some]
  rw [if_neg hl]; exact ⟨_, rfl⟩
theorem T_sign {N : Nat} (hN : 2 ^ 64 ≤ N) {cu : Int32} {ps as bs : Nat → Int32} (hS : ST cu ps as bs) {p a b rt pm : Int32} {f g pts ah : Nat → Int32} (hC : CUR p a b rt pm f g pts ah) (c : Int32) (x : Int32) (d : Int32) (k : Int32) (h : Int32) (w : Int32) : ∃ r p1 a1 b1 rt1 pm1 f1 g1 t1 q1, mX6_sign N p a b rt pm cu f g pts ah ps as bs c x d k h w = some (r, p1, a1, b1, rt1, pm1, f1, g1, t1, q1) ∧ CUR p1 a1 b1 rt1 pm1 f1 g1 t1 q1 := by
  unfold mX6_sign
  rcases has_spec N (by omega) hS hC c with e | ⟨P, A, B, pm', f', g', e, hCU, hix⟩
  · rw [e]; simp only [Option.bind_some]; rw [if_pos trivial]; exact ⟨_, _, _, _, _, _, _, _, _, _, rfl, hC⟩
  · have h1 := hCU.pos.1
    have hP := hCU.pos.2.1
    have fin : ∀ r0 : Int32, ∃ r p1 a1 b1 rt1 pm1 f1 g1 t1 q1, some (r0, nI P, nI A, nI B, nI P, pm', f', g', pts, ah) = some (r, p1, a1, b1, rt1, pm1, f1, g1, t1, q1) ∧ CUR p1 a1 b1 rt1 pm1 f1 g1 t1 q1 := fun r0 => ⟨_, _, _, _, _, _, _, _, _, _, rfl, Or.inr ⟨P, A, B, hCU⟩⟩
    have finL : ∀ (r0 : Int32) (t0 q0 : Nat → Int32), LK P A B P t0 q0 → ∃ r p1 a1 b1 rt1 pm1 f1 g1 t1 q1, some (r0, nI P, nI A, nI B, nI P, nI (cnt P A B P), f', g', t0, q0) = some (r, p1, a1, b1, rt1, pm1, f1, g1, t1, q1) ∧ CUR p1 a1 b1 rt1 pm1 f1 g1 t1 q1 := fun r0 t0 q0 hL => ⟨_, _, _, _, _, _, _, _, _, _, rfl, Or.inr ⟨P, A, B, hCU.listed hL⟩⟩
    have hcnt := cnt_b hCU
    rw [e]; simp only [Option.bind_some]; rw [if_neg (by decide)]
    rw [isPE N h1 hP]; simp only [Option.bind_some]
    by_cases kk : isPF N P (nI A) (nI B) x = 0
    · rw [if_pos kk]; exact fin _
    · rw [if_neg kk]
      rw [inE]; simp only [Option.bind_some]
      by_cases k2 : inF w.toInt64 0 1 = 0
      · rw [if_pos k2]; exact fin _
      · rw [if_neg k2]
        by_cases k3 : 0 ≤ h
        · rw [if_pos k3]
          obtain ⟨n, t, q, eo, h0, -, hn, -, hL⟩ := orderE N hN hCU x
          rw [eo]; simp only [Option.bind_some]
          obtain ⟨z, ez⟩ := isPrimeA N hN n (by omega)
          have hz : (nI n = 0) = False := eq_false (nI_ne0 h0 (by omega))
          have hl : ((nI n).toInt64 = 0) = False := eq_false (fun h => by
            rw [nI_l (by omega)] at h
            have := (lN_eq (a := n) (b := 0) (by omega) (by omega)).mp h
            omega)
          obtain ⟨v, ev⟩ := overA hN h0 (show n ≤ 10300 by omega) k
          rw [ez, ev]
          simp only [mulE N h1 hP, modE N h1 hP, rightE N h1 hP, sumE N h1 hP, multE hN h1 hP, powE hN h1 hP, negE, isPE N h1 hP, inE, modIx h1 hP, rightIx N h1 hP, Option.bind_some, mi_let, if_false, leastE hN h1 hP, hz, hl]
          repeat' split
          all_goals exact finL _ _ _ hL
        · rw [if_neg k3]; exact fin _
theorem T_good {N : Nat} (hN : 2 ^ 64 ≤ N) {cu : Int32} {ps as bs : Nat → Int32} (hS : ST cu ps as bs) {p a b rt pm : Int32} {f g pts ah : Nat → Int32} (hC : CUR p a b rt pm f g pts ah) (c : Int32) (x : Int32) (y : Int32) (h : Int32) (rr : Int32) (ss : Int32) : ∃ r p1 a1 b1 rt1 pm1 f1 g1 t1 q1, mX6_good N p a b rt pm cu f g pts ah ps as bs c x y h rr ss = some (r, p1, a1, b1, rt1, pm1, f1, g1, t1, q1) ∧ CUR p1 a1 b1 rt1 pm1 f1 g1 t1 q1 := by
  unfold mX6_good
  rcases has_spec N (by omega) hS hC c with e | ⟨P, A, B, pm', f', g', e, hCU, hix⟩
  · rw [e]; simp only [Option.bind_some, if_true]; exact ⟨_, _, _, _, _, _, _, _, _, _, rfl, hC⟩
  · have h1 := hCU.pos.1
    have hP := hCU.pos.2.1
    have fin : ∀ r0 : Int32, ∃ r p1 a1 b1 rt1 pm1 f1 g1 t1 q1, some (r0, nI P, nI A, nI B, nI P, pm', f', g', pts, ah) = some (r, p1, a1, b1, rt1, pm1, f1, g1, t1, q1) ∧ CUR p1 a1 b1 rt1 pm1 f1 g1 t1 q1 := fun r0 => ⟨_, _, _, _, _, _, _, _, _, _, rfl, Or.inr ⟨P, A, B, hCU⟩⟩
    have finL : ∀ (r0 : Int32) (t0 q0 : Nat → Int32), LK P A B P t0 q0 → ∃ r p1 a1 b1 rt1 pm1 f1 g1 t1 q1, some (r0, nI P, nI A, nI B, nI P, nI (cnt P A B P), f', g', t0, q0) = some (r, p1, a1, b1, rt1, pm1, f1, g1, t1, q1) ∧ CUR p1 a1 b1 rt1 pm1 f1 g1 t1 q1 := fun r0 t0 q0 hL => ⟨_, _, _, _, _, _, _, _, _, _, rfl, Or.inr ⟨P, A, B, hCU.listed hL⟩⟩
    have hcnt := cnt_b hCU
    rw [e]; simp only [Option.bind_some, show ((1 : Int32) = 0) = False from by decide, if_false]
    rw [isPE N h1 hP]; simp only [Option.bind_some]
    by_cases k : isPF N P (nI A) (nI B) x = 0
    · rw [if_pos k]; exact fin _
    · rw [if_neg k]
      rw [isPE N h1 hP]; simp only [Option.bind_some]
      by_cases k2 : isPF N P (nI A) (nI B) y = 0
      · rw [if_pos k2]; exact fin _
      · rw [if_neg k2]
        by_cases k3 : 0 ≤ h
        · rw [if_pos k3]
          obtain ⟨n, t, q, eo, h0, -, hn, -, hL⟩ := orderE N hN hCU x
          rw [eo]; simp only [Option.bind_some]
          obtain ⟨z, ez⟩ := isPrimeA N hN n (by omega)
          have hz : (nI n = 0) = False := eq_false (nI_ne0 h0 (by omega))
          have hl : ((nI n).toInt64 = 0) = False := eq_false (fun h => by
            rw [nI_l (by omega)] at h
            have := (lN_eq (a := n) (b := 0) (by omega) (by omega)).mp h
            omega)
          obtain ⟨v, ev⟩ := overA hN h0 (show n ≤ 10300 by omega) ss
          rw [ez, ev]
          simp only [mulE N h1 hP, modE N h1 hP, rightE N h1 hP, sumE N h1 hP, multE hN h1 hP, powE hN h1 hP, negE, isPE N h1 hP, inE, modIx h1 hP, rightIx N h1 hP, Option.bind_some, mi_let, if_false, leastE hN h1 hP, hz, hl]
          repeat' split
          all_goals exact finL _ _ _ hL
        · rw [if_neg k3]; exact fin _
