/-! the reference's tables and list -/
def invOK (P : Nat) (f : Nat → Int32) : Prop := ∀ j, j < P → ∃ x, x < P ∧ f j = nI x ∧ (0 < j → (P : Int) ∣ (j : Int) * x - 1)
theorem invf_ok {P : Nat} (hp : isp P) (h5 : 5 ≤ P) : ∀ n j : Nat, 0 < j → j < P → j ≤ n → (P : Int) ∣ (j : Int) * (invf P n j : Nat) - 1 := by
  intro n
  induction n with
  | zero => intro j h0 _ hn; omega
  | succ n ih =>
    intro j h0 hj hn
    by_cases e : j = 1
    · subst e
      rw [inv1 P (n + 1) (by omega)]
      exact ⟨0, rfl⟩
    · rw [inv_s P n j (by omega)]
      have hr : P % j ≠ 0 := fun h => by
        rcases pr_div hp (by omega) (Nat.dvd_of_mod_eq_zero h) with c | c <;> omega
      have hrj : P % j < j := Nat.mod_lt P h0
      have h1 := ih (P % j) (by omega) (by omega) (by omega)
      have h2 := Nat.div_add_mod P j
      generalize invf P n (P % j) = i at h1 ⊢
      generalize P / j = q at h2 ⊢
      generalize P % j = r at h1 h2 hr hrj
      have hlt : q * i % P < P := Nat.mod_lt _ (by omega)
      have h3 : (P : Int) ∣ (((P - q * i % P) % P : Nat) : Int) + (q : Int) * i := by
        have a1 : (P : Int) ∣ ((P - q * i % P : Nat) : Int) - (((P - q * i % P) % P : Nat) : Int) := by rw [Int.natCast_emod]; exact Int.dvd_self_sub_emod
        have a2 : (P : Int) ∣ (q : Int) * i - ((q * i % P : Nat) : Int) := by rw [Int.natCast_emod, Int.natCast_mul]; exact Int.dvd_self_sub_emod
        have a3 : ((P - q * i % P : Nat) : Int) = (P : Int) - ((q * i % P : Nat) : Int) := by omega
        have a4 := Int.dvd_sub a2 a1
        have a5 := Int.dvd_add a4 (Int.dvd_refl (P : Int))
        rwa [show (q : Int) * i - ((q * i % P : Nat) : Int) - (((P - q * i % P : Nat) : Int) - (((P - q * i % P) % P : Nat) : Int)) + (P : Int) = (((P - q * i % P) % P : Nat) : Int) + (q : Int) * i by omega] at a5
      generalize (P - q * i % P) % P = x at h3 ⊢
      have h2' : (j : Int) * q + r = P := by rw [← h2]; push_cast; rfl
      have h4 := Int.dvd_add (hs_mr (j : Int) h3) h1
      have h5 := Int.dvd_sub h4 (Int.dvd_mul_right (P : Int) (i : Int))
      rwa [show (j : Int) * ((x : Int) + (q : Int) * i) + ((r : Int) * i - 1) - (P : Int) * i = (j : Int) * x - 1 by rw [← h2']; grind] at h5
theorem invOK_of {P : Nat} {f : Nat → Int32} (hp : isp P) (h5 : 5 ≤ P) (h : invTab P f P) : invOK P f := fun j hj => by
  obtain ⟨e, hl⟩ := h j hj j (Nat.le_refl j)
  exact ⟨_, hl, e, fun h0 => invf_ok hp h5 j j h0 hj (Nat.le_refl j)⟩
theorem takeP2 (N : Nat) (hN : 20000 ≤ N) (P : Nat) (h5 : 5 ≤ P) (hP : P ≤ 10007) (rt pm : Int32) (f g : Nat → Int32) (ht : tabM rt f g) : ∃ pm' f' g', mX6_takePrime N rt pm f g (nI P) = some (nI P, nI P, pm', f', g') ∧ invTab P f' P ∧ rootTab P g' ∧ (pm' = 0 ∨ rt = nI P ∧ pm' = pm) := by
  obtain ⟨pm', f', g', e, h1, h2⟩ := takeP_spec N hN P h5 hP rt pm f g ht
  refine ⟨pm', f', g', e, h1, h2, ?_⟩
  by_cases h : rt = nI P
  · right
    unfold mX6_takePrime at e
    rw [if_pos h] at e
    have := Option.some.inj e
    simp only [Prod.mk.injEq] at this
    exact ⟨h, this.2.2.1.symm⟩
  · left
    obtain ⟨o1, e1⟩ : ∃ o, mi_run (mX6_takePrime_b40 N (nI P)) N (2, upd (upd f 0 0) 1 1) = some o := by
      cases hq : mi_run (mX6_takePrime_b40 N (nI P)) N (2, upd (upd f 0 0) 1 1) with
      | some o => exact ⟨o, rfl⟩
      | none =>
        unfold mX6_takePrime at e
        rw [if_neg h, if_neg (by decide)] at e
        have e : (if (1 : Int32) < 0 ∨ 10008 ≤ (1 : Int32).toNatClampNeg then none else (mi_run (mX6_takePrime_b40 N (nI P)) N (2, upd (upd f 0 0) 1 1)).bind _) = _ := e
        rw [if_neg (by decide), hq] at e
        cases e
    obtain ⟨o2, e2, q2⟩ := tp83 N hN P hP g
    obtain ⟨o3, e3, q3⟩ := tp105 N hN P h5 hP o2.2 q2
    unfold mX6_takePrime at e
    rw [if_neg h, if_neg (by decide)] at e
    have e : (if (1 : Int32) < 0 ∨ 10008 ≤ (1 : Int32).toNatClampNeg then none else (mi_run (mX6_takePrime_b40 N (nI P)) N (2, upd (upd f 0 0) 1 1)).bind _) = _ := e
    rw [if_neg (by decide), e1] at e
    have e : (mi_run (mX6_takePrime_b83 N (nI P)) N (0, g)).bind _ = _ := e
    rw [e2] at e
    have e : (mi_run (mX6_takePrime_b105 N (nI P)) N (nI P - 1, o2.2)).bind _ = _ := e
    rw [e3] at e
    have := Option.some.inj e
    simp only [Prod.mk.injEq] at this
    exact this.2.2.1.symm
theorem takeM2 (N : Nat) (hN : 20000 ≤ N) (P : Nat) (h5 : 5 ≤ P) (hP : P ≤ 10007) (ta tb rt pm a b : Int32) (f g : Nat → Int32) (ht : tabM rt f g) : ∃ pm' f' g', mX6_take N ta tb rt pm f g (nI P) a b = some (nI P, a, b, nI P, pm', f', g') ∧ invTab P f' P ∧ rootTab P g' ∧ (pm' = 0 ∨ rt = nI P ∧ ta = a ∧ tb = b ∧ pm' = pm) := by
  obtain ⟨pm', f', g', e, h1, h2, h3⟩ := takeP2 N hN P h5 hP rt pm f g ht
  unfold mX6_take
  rw [e]
  by_cases ha : ta = a
  · by_cases hb : tb = b
    · exact ⟨pm', f', g', by show (if ta = a then (if tb = b then _ else _) else _) = _; rw [if_pos ha, if_pos hb], h1, h2, h3.imp_right (fun q => ⟨q.1, ha, hb, q.2⟩)⟩
    · exact ⟨0, f', g', by show (if ta = a then (if tb = b then _ else _) else _) = _; rw [if_pos ha, if_neg hb], h1, h2, Or.inl rfl⟩
  · exact ⟨0, f', g', by show (if ta = a then (if tb = b then _ else _) else _) = _; rw [if_neg ha], h1, h2, Or.inl rfl⟩
/-- the least root of v -/
def isR (P v r : Nat) : Prop := r < P ∧ r * r % P = v ∧ ∀ s, s < r → ¬ s * s % P = v
/-- the list over the x below k -/
def LK (P A B k : Nat) (pts ah : Nat → Int32) : Prop := pts 0 = -1 ∧ ∀ x, x < k → ah x = nI (cnt P A B x) ∧ ∀ r, isR P (cub P A B x) r → pts (cnt P A B x) = nI (16384 * x + r) ∧ (0 < r → pts (cnt P A B x + 1) = nI (16384 * x + P - r))
theorem cnt_pos (P A B k : Nat) : 1 ≤ cnt P A B k := cnt_mono P A B (Nat.zero_le k)
theorem wt_of_isR {P v r : Nat} (h : isR P v r) (h1 : 1 ≤ P) : (r = 0 ∧ wt P v = 1) ∨ (0 < r ∧ wt P v = 2) := by
  have hs : sqb P v = true := sqb_iff.mpr ⟨r, h.1, h.2.1⟩
  by_cases c : r = 0
  · left
    have hv : v = 0 := by rw [← h.2.1, c]; simp
    exact ⟨c, by unfold wt; rw [if_pos hv]⟩
  · right
    have hv : ¬ v = 0 := fun e => h.2.2 0 (by omega) (by rw [e]; simp)
    exact ⟨by omega, by unfold wt; rw [if_neg hv, if_pos hs]⟩
theorem cub_lt (P A B x : Nat) (h1 : 1 ≤ P) : cub P A B x < P := Nat.mod_lt _ h1
theorem list22 (N : Nat) (hN : 20000 ≤ N) (P A B : Nat) (hp : isp P) (h5 : 5 ≤ P) (hP : P ≤ 10007) (hA : A < P) (hB : B < P) (g : Nat → Int32) (hg : rootTab P g) (pts ah : Nat → Int32) (h0 : pts 0 = -1) :
    ∃ o, mi_run (mX6_list_b22 N (nI P) (nI A) (nI B) g) N (0, 1, pts, ah) = some o ∧ o.2.1 = nI (cnt P A B P) ∧ LK P A B P o.2.2.1 o.2.2.2 := by
  have h1 : 1 ≤ P := by omega
  have hmax : ∀ k, k ≤ P → cnt P A B k ≤ 10298 := fun k hk => Nat.le_trans (cnt_mono P A B hk) (cnt_10300 hp h5 hP)
  obtain ⟨o, e, q⟩ := mi_run_ok (mX6_list_b22 N (nI P) (nI A) (nI B) g) (fun s => ∃ k, k ≤ P ∧ s.1 = nI k ∧ s.2.1 = nI (cnt P A B k) ∧ LK P A B k s.2.2.1 s.2.2.2) (fun o => o.2.1 = nI (cnt P A B P) ∧ LK P A B P o.2.2.1 o.2.2.2) (fun s => P - s.1.toNatClampNeg) (by
    rintro ⟨x4, x5, x6, x7⟩ ⟨k, hk, e4, e5, hL⟩
    have e4 : x4 = nI k := e4
    have e5 : x5 = nI (cnt P A B k) := e5
    have hL : LK P A B k x6 x7 := hL
    subst e4 e5
    have hc := hmax k hk
    by_cases c : P ≤ k
    · have : k = P := by omega
      subst this
      right
      refine ⟨(nI k, nI (cnt k A B k), x6, x7), ?_, rfl, hL⟩
      dsimp only [mX6_list_b22]
      rw [if_pos (nI_le (Nat.le_refl k) (by omega))]
    · left
      have hk1 : k < P := by omega
      have hc1 := hmax (k + 1) hk1
      have hcs : cnt P A B (k + 1) = cnt P A B k + wt P (cub P A B k) := rfl
      have hcp := cnt_pos P A B k
      have hah : ∀ x, x < k + 1 → (upd x7 k (nI (cnt P A B k))) x = nI (cnt P A B x) := fun x hx => by
        by_cases e : x = k
        · rw [e, pk_us]
        · rw [pk_un e]; exact (hL.2 x (by omega)).1
      have hbelow : ∀ x, x < k → cnt P A B x + wt P (cub P A B x) ≤ cnt P A B k := fun x hx => cnt_mono P A B (k := x + 1) (by omega)
      have hmu : P - (nI (k + 1)).toNatClampNeg < P - k := by rw [nI_clamp (by omega)]; omega
      dsimp only [mX6_list_b22, mi_let]
      rw [if_neg (nI_ge hk1 (by omega)), if_neg (ix_nI (k := k) (n := 10008) (by omega) (by omega)), nI_clamp (by omega), rightM N P A B k h1 hP hA hB hk1]
      have hv := cub_lt P A B k h1
      simp only [Option.bind_some]
      rw [if_neg (ix_nI (k := cub P A B k) (n := 10008) (by omega) (by omega)), nI_clamp (by omega : cub P A B k < 2 ^ 31)]
      rcases hg _ hv with ⟨ev, hno⟩ | ⟨r, ev, hr, hrr, hmin⟩
      · rw [if_pos ev, nI_1]
        refine ⟨_, rfl, ⟨k + 1, hk1, rfl, ?_, hL.1, fun x hx => ⟨hah x hx, fun r hr => ?_⟩⟩, hmu⟩
        · have hw : wt P (cub P A B k) = 0 := by
            rcases root_wt2 hg h1 hP hv with q | q | q
            · exact q.2
            · exact absurd ev q.1
            · exact absurd ev q.1
          show nI (cnt P A B k) = nI (cnt P A B (k + 1))
          rw [hcs, hw]; rfl
        · by_cases e : x = k
          · subst e; exact absurd hr.2.1 (hno r hr.1)
          · exact (hL.2 x (by omega)).2 r hr
      · have hne : ¬ g (cub P A B k) = -1 := by
          rw [ev]; intro h
          have := congrArg Int32.toInt h
          rw [nI_toInt (by omega)] at this
          have h2 : ((-1 : Int32)).toInt = -1 := by decide
          rw [h2] at this; omega
        have hR : isR P (cub P A B k) r := ⟨hr, hrr, hmin⟩
        have hRu : ∀ r', isR P (cub P A B k) r' → r' = r := fun r' h' => by
          rcases Nat.lt_trichotomy r' r with c1 | c1 | c1
          · exact absurd h'.2.1 (hmin r' c1)
          · exact c1
          · exact absurd hrr (h'.2.2 r c1)
        have hw := wt_of_isR hR h1
        rw [if_neg hne, if_neg (ix_nI (k := cnt P A B k) (n := 10300) (by omega) (by omega)), nI_clamp (by omega : cnt P A B k < 2 ^ 31), nI_1, ev]
        have e16 : (16384 : Int32) * nI k + nI r = nI (16384 * k + r) := by rw [show (16384 : Int32) = nI 16384 from rfl, pk_mul, nI_add]
        rw [e16]
        by_cases c0 : r = 0
        · subst c0
          rw [if_pos (by decide), nI_1]
          have hw1 : wt P (cub P A B k) = 1 := by rcases hw with q | q <;> omega
          refine ⟨_, rfl, ⟨k + 1, hk1, rfl, ?_, ?_, fun x hx => ⟨hah x hx, fun r' hr' => ?_⟩⟩, hmu⟩
          · show nI (cnt P A B k + 1) = nI (cnt P A B (k + 1)); rw [hcs, hw1]
          · show upd x6 (cnt P A B k) _ 0 = -1; rw [pk_un (by omega)]; exact hL.1
          · by_cases e : x = k
            · subst e
              have := hRu r' hr'
              subst this
              exact ⟨pk_us, fun h => absurd h (by omega)⟩
            · have hb := hbelow x (by omega)
              obtain ⟨q1, q2⟩ := (hL.2 x (by omega)).2 r' hr'
              have hwx := wt_of_isR hr' h1
              exact ⟨(pk_un (by omega)).trans q1, fun h => (pk_un (by omega)).trans (q2 h)⟩
        · have hw2 : wt P (cub P A B k) = 2 := by rcases hw with q | q <;> omega
          rw [if_neg (nI_nle (by omega) (by omega)), nI_1 (cnt P A B k), if_neg (ix_nI (k := cnt P A B k + 1) (n := 10300) (by omega) (by omega)), nI_clamp (by omega : cnt P A B k + 1 < 2 ^ 31), nI_1]
          have e17 : (16384 : Int32) * nI k + nI P - nI r = nI (16384 * k + P - r) := by rw [show (16384 : Int32) = nI 16384 from rfl, pk_mul, nI_add, pk_sub (by omega)]
          rw [e17]
          refine ⟨_, rfl, ⟨k + 1, hk1, rfl, ?_, ?_, fun x hx => ⟨hah x hx, fun r' hr' => ?_⟩⟩, hmu⟩
          · show nI (cnt P A B k + 1 + 1) = nI (cnt P A B (k + 1)); rw [hcs, hw2]
          · show upd (upd x6 (cnt P A B k) (nI (16384 * k + r))) (cnt P A B k + 1) (nI (16384 * k + P - r)) 0 = -1
            rw [pk_un (by omega), pk_un (by omega)]; exact hL.1
          · by_cases e : x = k
            · subst e
              have := hRu r' hr'
              subst this
              exact ⟨(pk_un (by omega)).trans pk_us, fun h => pk_us⟩
            · have hb := hbelow x (by omega)
              obtain ⟨q1, q2⟩ := (hL.2 x (by omega)).2 r' hr'
              have hwx := wt_of_isR hr' h1
              exact ⟨(pk_un (by omega)).trans ((pk_un (by omega)).trans q1), fun h => (pk_un (by omega)).trans ((pk_un (by omega)).trans (q2 h))⟩) N (0, 1, pts, ah) ⟨0, by omega, rfl, rfl, h0, fun x hx => absurd hx (Nat.not_lt_zero x)⟩ (by show P - _ < N; omega)
  exact ⟨o, e, q⟩
/-- what the reference holds of the curve that it stands at -/
def CU (P A B : Nat) (p a b rt pm : Int32) (f g pts ah : Nat → Int32) : Prop := p = nI P ∧ a = nI A ∧ b = nI B ∧ rt = nI P ∧ isp P ∧ 5 ≤ P ∧ P ≤ 10007 ∧ A < P ∧ B < P ∧ invTab P f P ∧ rootTab P g ∧ (pm = 0 ∨ pm = nI (cnt P A B P) ∧ LK P A B P pts ah)
theorem list_spec (N : Nat) (hN : 20000 ≤ N) {P A B : Nat} {p a b rt pm : Int32} {f g pts ah : Nat → Int32} (h : CU P A B p a b rt pm f g pts ah) : ∃ pts' ah', mX6_list N p a b pm g pts ah = some (nI (cnt P A B P), pts', ah') ∧ LK P A B P pts' ah' := by
  obtain ⟨rfl, rfl, rfl, rfl, hp, h5, hP, hA, hB, hf, hg, hL⟩ := h
  have hc := cnt_10300 (A := A) (B := B) hp h5 hP
  have hc1 := cnt_pos P A B P
  unfold mX6_list
  by_cases c : pm ≤ 0
  · rw [if_pos c, if_neg (by decide)]
    obtain ⟨o, e, q1, q2⟩ := list22 N hN P A B hp h5 hP hA hB g hg (upd pts 0 (-1)) ah (by rw [pk_us])
    refine ⟨o.2.2.1, o.2.2.2, ?_, q2⟩
    show (mi_run (mX6_list_b22 N (nI P) (nI A) (nI B) g) N (0, 1, upd pts 0 (-1), ah)).bind _ = _
    rw [e]
    obtain ⟨o1, o2, o3, o4⟩ := o
    show some (o2, o3, o4) = _
    rw [show o2 = nI (cnt P A B P) from q1]
  · rw [if_neg c]
    rcases hL with e | ⟨e, q⟩
    · exact absurd (by rw [e]; decide) c
    · exact ⟨pts, ah, by rw [e], q⟩
