/-! chains: the x of W + n Q as a rational function of the x of Q -/
def gStp {F R : Type} [mRng F] [mRng R] {co : R → Nat → F} (h : isPol co) (a b : F) (p q r : R × R) : Prop :=
  gD (pX h) q.1 q.2 * gD (pX h) q.1 q.2 = r.2 * p.2 ∧ gS (pC h a) (pC h b) (pX h) q.1 q.2 = r.1 * p.2 + p.1 * r.2 ∧ gM (pC h a) (pC h b) (pX h) q.1 q.2 = r.1 * p.1
def gRel {F R : Type} [mRng F] [mRng R] {co : R → Nat → F} (h : isPol co) (a b : F) (p q : R × R) : Prop :=
  gD (pX h) q.1 q.2 * gD (pX h) q.1 q.2 * (p.1 * p.1) - gS (pC h a) (pC h b) (pX h) q.1 q.2 * (p.1 * p.2) + gM (pC h a) (pC h b) (pX h) q.1 q.2 * (p.2 * p.2) = 0
theorem rl_st1 {R : Type} [mRng R] {D S M A B u v : R} (k : D * (A * A) - S * (A * B) + M * (B * B) = 0) (e : u * A + v * B = 1) :
    D = (u * u * (A * S - M * B) + 2 * (u * v) * (A * D) + v * v * (B * D)) * B := by
  have : (u * u * (A * S - M * B) + 2 * (u * v) * (A * D) + v * v * (B * D)) * B = D * ((u * A + v * B) * (u * A + v * B)) - u * u * (D * (A * A) - S * (A * B) + M * (B * B)) := by grind
  rw [this, k, e]; grind
theorem rl_st2 {R : Type} [mRng R] {D S M A B u v : R} (k : D * (A * A) - S * (A * B) + M * (B * B) = 0) (e : u * A + v * B = 1) :
    S = (u * u * (A * M) + 2 * (u * v) * (B * M) + v * v * (B * S - A * D)) * B + A * (u * u * (A * S - M * B) + 2 * (u * v) * (A * D) + v * v * (B * D)) := by
  have : (u * u * (A * M) + 2 * (u * v) * (B * M) + v * v * (B * S - A * D)) * B + A * (u * u * (A * S - M * B) + 2 * (u * v) * (A * D) + v * v * (B * D)) = S * ((u * A + v * B) * (u * A + v * B)) + 2 * (u * v) * (D * (A * A) - S * (A * B) + M * (B * B)) := by grind
  rw [this, k, e]; grind
theorem rl_st3 {R : Type} [mRng R] {D S M A B u v : R} (k : D * (A * A) - S * (A * B) + M * (B * B) = 0) (e : u * A + v * B = 1) :
    M = (u * u * (A * M) + 2 * (u * v) * (B * M) + v * v * (B * S - A * D)) * A := by
  have : (u * u * (A * M) + 2 * (u * v) * (B * M) + v * v * (B * S - A * D)) * A = M * ((u * A + v * B) * (u * A + v * B)) - v * v * (D * (A * A) - S * (A * B) + M * (B * B)) := by grind
  rw [this, k, e]; grind
theorem stp_ex {F R : Type} [mRng F] [mRng R] {co : R → Nat → F} (h : isPol co) {a b : F} {p q : R × R} (hc : cop p.1 p.2) (k : gRel h a b p q) : ∃ r, gStp h a b p q r := by
  obtain ⟨u, v, e⟩ := hc
  exact ⟨(_, _), rl_st1 k e, rl_st2 k e, rl_st3 k e⟩
theorem rl_sym {R : Type} [mRng R] (a b x A B A' B' : R) : gD x A' B' * gD x A' B' * (A * A) - gS a b x A' B' * (A * B) + gM a b x A' B' * (B * B) = gD x A B * gD x A B * (A' * A') - gS a b x A B * (A' * B') + gM a b x A B * (B' * B') := by
  unfold gD gS gM; grind
theorem gRel_sym {F R : Type} [mRng F] [mRng R] {co : R → Nat → F} {h : isPol co} {a b : F} {p q : R × R} (k : gRel h a b p q) : gRel h a b q p := by
  unfold gRel at *; rw [rl_sym]; exact k
theorem stp_rel {F R : Type} [mRng F] [mRng R] {co : R → Nat → F} {h : isPol co} {a b : F} {p q r : R × R} (k : gStp h a b p q r) : gRel h a b q r := by
  refine gRel_sym ?_
  obtain ⟨k1, k2, k3⟩ := k
  unfold gRel; rw [k1, k2, k3]; grind
theorem dvs_C {F R : Type} [mFld F] [mRng R] {co : R → Nat → F} (h : isPol co) {g : R} {k : F} (hk : k ≠ 0) (d : dvs g (pC h k)) : g ≠ 0 ∧ sz h g ≤ 1 := by
  obtain ⟨l, e⟩ := d
  have k0 := sz_C h hk
  have g0 : g ≠ 0 := fun z => by rw [e, z, show (0 : R) * l = 0 by grind, sz_zero] at k0; omega
  have l0 : l ≠ 0 := fun z => by rw [e, z, show g * 0 = 0 by grind, sz_zero] at k0; omega
  obtain ⟨d1, e1⟩ := sz_pos h g0; obtain ⟨d2, e2⟩ := sz_pos h l0
  have := sz_mul h e1 e2
  rw [← e, k0] at this
  exact ⟨g0, by omega⟩
theorem dvs_mul {R : Type} [mRng R] {g p : R} (q : R) (d : dvs g p) : dvs g (q * p) := by obtain ⟨k, e⟩ := d; exact ⟨q * k, by grind⟩
theorem dvs_add {R : Type} [mRng R] {g p q : R} (d : dvs g p) (e : dvs g q) : dvs g (p + q) := by obtain ⟨k, e1⟩ := d; obtain ⟨l, e2⟩ := e; exact ⟨k + l, by grind⟩
theorem dvs_sub {R : Type} [mRng R] {g p q : R} (d : dvs g p) (e : dvs g q) : dvs g (p - q) := by obtain ⟨k, e1⟩ := d; obtain ⟨l, e2⟩ := e; exact ⟨k - l, by grind⟩
theorem dvs_tr {R : Type} [mRng R] {g p q : R} (d : dvs g p) (e : dvs p q) : dvs g q := by obtain ⟨k, e1⟩ := d; obtain ⟨l, e2⟩ := e; exact ⟨k * l, by grind⟩
theorem dvs_rf {R : Type} [mRng R] (g : R) : dvs g g := ⟨1, by grind⟩
theorem unit_1 {F R : Type} [mFld F] [mRng R] {co : R → Nat → F} (h : isPol co) {g : R} (g0 : g ≠ 0) (s : sz h g ≤ 1) : ∃ i, i * g = 1 := by
  have e := sz_1 h s
  have c0 : co g 0 ≠ 0 := fun k => g0 (by rw [e, k, pC_zero])
  refine ⟨pC h (co g 0)⁻¹, ?_⟩
  rw [e, co_C h, if_pos rfl, ← pC_mul, Lean.Grind.Field.inv_mul_cancel c0, pC_one]
theorem rl_res {R : Type} [mRng R] (a b t A B : R) : 4 * (4 * a * a * a + 27 * b * b) * (B * B) = 4 * (3 * t * t + 4 * a) * gM a b t A B - (3 * t * t * t - 5 * a * t - 27 * b) * gS a b t A B
    + (2 * (3 * t * t * t - 5 * a * t - 27 * b) * (t * gD t A B + (3 * t * t + a) * B) - 4 * (3 * t * t + 4 * a) * (gD t A B * (t * t) + 2 * t * (t * t - a) * B - 4 * b * B)) * gD t A B := by
  unfold gD gS gM; grind
theorem ns_C {F R : Type} [mRng F] [mRng R] {co : R → Nat → F} (h : isPol co) (a b : F) : 4 * (4 * pC h a * pC h a * pC h a + 27 * pC h b * pC h b) = pC h (4 * (4 * a * a * a + 27 * b * b)) := by
  have hh := pC_hom h
  have n : ∀ n : Nat, ∀ x : F, (OfNat.ofNat (α := R) n) * pC h x = pC h (OfNat.ofNat (α := F) n * x) := fun n x => by
    induction n with
    | zero => rw [show (OfNat.ofNat (α := F) 0) * x = 0 by grind, pC_zero]; grind
    | succ n ih => rw [Lean.Grind.Semiring.ofNat_succ (α := R) n, Lean.Grind.Semiring.ofNat_succ (α := F) n, show (OfNat.ofNat (α := F) n + 1) * x = OfNat.ofNat n * x + x by grind, pC_add, ← ih]; grind
  rw [← n 4, pC_add, show (4 : F) * a * a * a = 4 * (a * a * a) by grind, show (27 : F) * b * b = 27 * (b * b) by grind, ← n 4, ← n 27, pC_mul, pC_mul, pC_mul]; grind
theorem stp_cop {F R : Type} [mFld F] [mRng R] {co : R → Nat → F} (h : isPol co) {a b : F} (h2 : (2 : F) ≠ 0) (hns : 4 * a * a * a + 27 * b * b ≠ 0) {p q r : R × R} (hq : cop q.1 q.2) (k : gStp h a b p q r) : cop r.1 r.2 := by
  obtain ⟨k1, k2, k3⟩ := k
  have d0 : 4 * (4 * a * a * a + 27 * b * b) ≠ 0 := fun z => by
    have : 2 * (2 * (4 * a * a * a + 27 * b * b)) = 0 := by rw [← z]; grind
    rcases Lean.Grind.Field.of_mul_eq_zero this with z | z
    · exact h2 z
    · rcases Lean.Grind.Field.of_mul_eq_zero z with z | z
      · exact h2 z
      · exact hns z
  refine cop_of h (fun g g1 g2 => ?_)
  have gM' : dvs g (gM (pC h a) (pC h b) (pX h) q.1 q.2) := by rw [k3, show r.1 * p.1 = p.1 * r.1 by grind]; exact dvs_mul _ g1
  have gS' : dvs g (gS (pC h a) (pC h b) (pX h) q.1 q.2) := by rw [k2, show r.1 * p.2 + p.1 * r.2 = p.2 * r.1 + p.1 * r.2 by grind]; exact dvs_add (dvs_mul _ g1) (dvs_mul _ g2)
  have gD' : dvs g (gD (pX h) q.1 q.2 * gD (pX h) q.1 q.2) := by rw [k1, show r.2 * p.2 = p.2 * r.2 by grind]; exact dvs_mul _ g2
  -- the common part of g and D
  obtain ⟨e, u, v, e1, e2, e3⟩ := po_gcd h _ g (gD (pX h) q.1 q.2) (Nat.le_refl _)
  have e4 : dvs e (pC h (4 * (4 * a * a * a + 27 * b * b)) * (q.2 * q.2)) := by
    rw [← ns_C, rl_res (pC h a) (pC h b) (pX h) q.1 q.2]
    exact dvs_add (dvs_sub (dvs_mul _ (dvs_tr e2 gM')) (dvs_mul _ (dvs_tr e2 gS'))) (dvs_mul _ e3)
  have c1 : cop e q.2 := by
    obtain ⟨u, v, w⟩ := hq; obtain ⟨l, e3⟩ := e3
    refine ⟨u * l, u * pX h + v, ?_⟩
    have : u * q.1 + v * q.2 = u * gD (pX h) q.1 q.2 + (u * pX h + v) * q.2 := by unfold gD; grind
    rw [this, e3] at w; rw [← w]; grind
  have e5 : dvs e (pC h (4 * (4 * a * a * a + 27 * b * b))) := cop_dvs (cop_mul c1 c1) (by rw [show q.2 * q.2 * pC h (4 * (4 * a * a * a + 27 * b * b)) = pC h (4 * (4 * a * a * a + 27 * b * b)) * (q.2 * q.2) by grind]; exact e4)
  obtain ⟨e6, e7⟩ := dvs_C h d0 e5
  obtain ⟨i, hi⟩ := unit_1 h e6 e7
  have c2 : cop g (gD (pX h) q.1 q.2) := ⟨i * u, i * v, by rw [e1] at hi; rw [← hi]; grind⟩
  have c3 := cop_mul c2 c2
  have e8 : dvs g 1 := cop_dvs c3 (by obtain ⟨l, e⟩ := gD'; exact ⟨l, by rw [e]; grind⟩)
  exact dvs_C h (k := 1) (fun z => Lean.Grind.Field.zero_ne_one z.symm) (by rw [pC_one]; exact e8)
/-- sizes along a chain -/
theorem stp_sz {F R : Type} [mFld F] [mRng R] {co : R → Nat → F} (h : isPol co) {a b : F} {p q r : R × R} (hp : sz h p.2 < sz h p.1) (hq : sz h q.2 < sz h q.1) (k : gStp h a b p q r) : sz h r.2 < sz h r.1 ∧ sz h r.1 + sz h p.1 = 2 * sz h q.1 + 2 := by
  obtain ⟨k1, k2, k3⟩ := k
  obtain ⟨d, hd⟩ : ∃ d, sz h q.1 = d + 1 := ⟨sz h q.1 - 1, by omega⟩
  have hX := sz_X h
  have AA : sz h (q.1 * pX h) = d + 2 := sz_mul h hd hX
  have AAX := sz_mul h AA AA
  have M1 : sz h (gM (pC h a) (pC h b) (pX h) q.1 q.2) = 2 * d + 3 := by
    have e : gM (pC h a) (pC h b) (pX h) q.1 q.2 = q.1 * pX h * (q.1 * pX h) + (pC h a * (pC h a * (q.2 * q.2)) - (pC h a + pC h a) * (q.2 * (q.1 * pX h)) - (pC h b + pC h b + pC h b + pC h b) * (q.2 * (q.1 + pX h * q.2))) := by unfold gM; grind
    have s1 : ∀ (k : F) (w : R) (n : Nat), sz h w ≤ n + 1 → sz h (pC h k * w) ≤ n + 1 := fun k w n hw => by
      have := (sz_mle h (sz_Cle h k) hw).1; omega
    have s2 : ∀ (w w' : R) (n m : Nat), sz h w ≤ n + 1 → sz h w' ≤ m + 1 → sz h (w * w') ≤ n + m + 1 := fun w w' n m hw hw' => (sz_mle h hw hw').1
    have b2 : sz h (q.2 * q.2) ≤ 2 * d + 1 := by have := s2 q.2 q.2 d d (by omega) (by omega); omega
    by_cases z : q.2 = 0
    · rw [e, z]
      have : q.1 * pX h * (q.1 * pX h) + (pC h a * (pC h a * (0 * 0)) - (pC h a + pC h a) * (0 * (q.1 * pX h)) - (pC h b + pC h b + pC h b + pC h b) * (0 * (q.1 + pX h * 0))) = q.1 * pX h * (q.1 * pX h) := by grind
      rw [this, AAX]; omega
    · obtain ⟨m, hm⟩ := sz_pos h z
      have t1 : sz h (pC h a * (pC h a * (q.2 * q.2))) ≤ 2 * d + 2 := Nat.le_succ_of_le (s1 a _ (2 * d) (s1 a _ (2 * d) b2))
      have t2 : sz h (q.2 * (q.1 * pX h)) ≤ 2 * d + 2 := by have := s2 q.2 (q.1 * pX h) m (d + 1) (by omega) (by omega); omega
      have t3 : sz h (pX h * q.2) ≤ d + 1 := by have := s2 (pX h) q.2 1 m (by omega) (by omega); omega
      have t4 : sz h (q.2 * (q.1 + pX h * q.2)) ≤ 2 * d + 2 := by have := s2 q.2 (q.1 + pX h * q.2) m d (by omega) (sz_add h (by omega) t3); omega
      have t5 := s1 (a + a) _ (2 * d + 1) t2
      have t6 := s1 (b + b + b + b) _ (2 * d + 1) t4
      rw [pC_add] at t5
      rw [pC_add, pC_add, pC_add] at t6
      rw [e, sz_addl h (by have := sz_sub h (sz_sub h t1 t5) t6; omega), AAX]; omega
  have M0 : r.1 * p.1 ≠ 0 := fun z => by rw [k3, z, sz_zero] at M1; omega
  have r0 : r.1 ≠ 0 := fun z => M0 (by rw [z]; grind)
  have p0 : p.1 ≠ 0 := fun z => M0 (by rw [z]; grind)
  obtain ⟨m1, hr1⟩ := sz_pos h r0
  obtain ⟨m2, hp1⟩ := sz_pos h p0
  have e1 := sz_mul h hr1 hp1
  rw [← k3, M1] at e1
  refine ⟨?_, by omega⟩
  refine Classical.byContradiction (fun ne => ?_)
  have S1 : sz h (gS (pC h a) (pC h b) (pX h) q.1 q.2) ≤ 2 * d + 2 := by
    have e : gS (pC h a) (pC h b) (pX h) q.1 q.2 = (1 + 1) * ((q.1 * pX h + pC h a * q.2) * (q.1 + pX h * q.2) + (1 + 1) * (pC h b * (q.2 * q.2))) := by unfold gS; grind
    have two : ∀ (w : R) (n : Nat), sz h w ≤ n → sz h ((1 + 1) * w) ≤ n := fun w n hw => by rw [show (1 + 1) * w = w + w by grind]; exact sz_add h hw hw
    rw [e]
    refine two _ _ (sz_add h ?_ (two _ _ ?_))
    · have t1 : sz h (q.1 * pX h + pC h a * q.2) ≤ d + 2 := sz_add h (by omega) (by have := (sz_mle h (sz_Cle h a) (show sz h q.2 ≤ d + 1 by omega)).1; omega)
      have t2 : sz h (q.1 + pX h * q.2) ≤ d + 1 := sz_add h (by omega) (by
        by_cases z : q.2 = 0
        · rw [z, show pX h * 0 = (0 : R) by grind, sz_zero]; omega
        · obtain ⟨m, hm⟩ := sz_pos h z
          have := sz_mul h hX hm; omega)
      have := (sz_mle h (d := d + 1) (e := d) t1 t2).1; omega
    · have t1 := (sz_mle h (show sz h q.2 ≤ d + 1 by omega) (show sz h q.2 ≤ d + 1 by omega)).1
      have := (sz_mle h (sz_Cle h b) (show sz h (q.2 * q.2) ≤ 2 * d + 1 by omega)).1; omega
  have r20 : r.2 ≠ 0 := fun z => by rw [z, sz_zero] at ne; omega
  obtain ⟨m3, hr2⟩ := sz_pos h r20
  have e2 := sz_mul h hp1 hr2
  have e3 : sz h (r.1 * p.2) < sz h (p.1 * r.2) := by
    by_cases z : p.2 = 0
    · rw [z, show r.1 * 0 = (0 : R) by grind, sz_zero]; omega
    · obtain ⟨m4, hp2⟩ := sz_pos h z
      rw [sz_mul h hr1 hp2]; omega
  have e4 := sz_addl h e3
  rw [show p.1 * r.2 + r.1 * p.2 = r.1 * p.2 + p.1 * r.2 by grind, ← k2] at e4
  omega
def gGood {F R : Type} [mRng F] [mRng R] {co : R → Nat → F} (h : isPol co) (a b : F) (p q : R × R) : Prop := cop p.1 p.2 ∧ cop q.1 q.2 ∧ sz h p.2 < sz h p.1 ∧ sz h q.2 < sz h q.1 ∧ gRel h a b p q
noncomputable def nxt {F R : Type} [mRng F] [mRng R] {co : R → Nat → F} (h : isPol co) (a b : F) (p q : R × R) : R × R := @Classical.epsilon (R × R) ⟨(0, 0)⟩ (fun r => gStp h a b p q r)
noncomputable def chn {F R : Type} [mRng F] [mRng R] {co : R → Nat → F} (h : isPol co) (a b : F) (p q : R × R) : Nat → R × R
  | 0 => p
  | 1 => q
  | n + 2 => nxt h a b (chn h a b p q n) (chn h a b p q (n + 1))
theorem chn_good {F R : Type} [mFld F] [mRng R] {co : R → Nat → F} (h : isPol co) {a b : F} (h2 : (2 : F) ≠ 0) (hns : 4 * a * a * a + 27 * b * b ≠ 0) {p q : R × R} (g : gGood h a b p q) : ∀ n : Nat, gGood h a b (chn h a b p q n) (chn h a b p q (n + 1)) ∧ gStp h a b (chn h a b p q n) (chn h a b p q (n + 1)) (chn h a b p q (n + 2)) := by
  have st : ∀ n, gGood h a b (chn h a b p q n) (chn h a b p q (n + 1)) → gStp h a b (chn h a b p q n) (chn h a b p q (n + 1)) (chn h a b p q (n + 2)) := fun n g =>
    Classical.epsilon_spec (stp_ex h g.1 g.2.2.2.2)
  intro n
  induction n with
  | zero => exact ⟨g, st 0 g⟩
  | succ n ih =>
    have g' : gGood h a b (chn h a b p q (n + 1)) (chn h a b p q (n + 2)) := ⟨ih.1.2.1, stp_cop h h2 hns ih.1.2.1 ih.2, ih.1.2.2.2.1, (stp_sz h ih.1.2.2.1 ih.1.2.2.2.1 ih.2).1, stp_rel ih.2⟩
    exact ⟨g', st (n + 1) g'⟩
theorem chn_sz {F R : Type} [mFld F] [mRng R] {co : R → Nat → F} (h : isPol co) {a b : F} (h2 : (2 : F) ≠ 0) (hns : 4 * a * a * a + 27 * b * b ≠ 0) {p q : R × R} (g : gGood h a b p q) (n : Nat) : sz h (chn h a b p q (n + 2)).1 + sz h (chn h a b p q n).1 = 2 * sz h (chn h a b p q (n + 1)).1 + 2 := by
  have k := chn_good h h2 hns g n
  exact (stp_sz h k.1.2.2.1 k.1.2.2.2.1 k.2).2
/-! values along a chain -/
def evp {F R : Type} [mRng F] [mRng R] {co : R → Nat → F} {L : Type} [mFld L] (h : isPol co) (φ : F → L) (ξ : L) (p : R × R) (W : Pt L) : Prop := ∃ k : L, k ≠ 0 ∧ ev h φ ξ p.1 = k * xA W ∧ ev h φ ξ p.2 = k * xB W
theorem rl_ev {L : Type} [mFld L] {X Z X' Z' A B k l : L} (hl : l ≠ 0) (h0 : X' ≠ 0 ∨ Z' ≠ 0) (e1 : k * (Z * Z') = B * (l * Z')) (e2 : k * (X * Z' + X' * Z) = A * (l * Z') + (l * X') * B) (e3 : k * (X * X') = A * (l * X')) : k * X = l * A ∧ k * Z = l * B := by
  by_cases z : Z' = 0
  · have x : X' ≠ 0 := h0.resolve_right (fun k => k z)
    rw [z] at e2
    have e4 : X' * (k * X - l * A) = 0 := by grind
    have e5 : X' * (k * Z - l * B) = 0 := by grind
    refine ⟨?_, ?_⟩
    · rcases Lean.Grind.Field.of_mul_eq_zero e4 with w | w
      · exact absurd w x
      · grind
    · rcases Lean.Grind.Field.of_mul_eq_zero e5 with w | w
      · exact absurd w x
      · grind
  · have e5 : Z' * (k * Z - l * B) = 0 := by grind
    have e6 : k * Z = l * B := by
      rcases Lean.Grind.Field.of_mul_eq_zero e5 with w | w
      · exact absurd w z
      · grind
    refine ⟨?_, e6⟩
    have e4 : Z' * (k * X - l * A) = 0 := by
      have : k * (X * Z' + X' * Z) = Z' * (k * X) + X' * (k * Z) := by grind
      rw [this, e6] at e2; grind
    rcases Lean.Grind.Field.of_mul_eq_zero e4 with w | w
    · exact absurd w z
    · grind
theorem ev_g {F R : Type} [mRng F] [mRng R] {co : R → Nat → F} {L : Type} [mRng L] (h : isPol co) {φ : F → L} (hφ : isHom φ) (a b : F) (ξ : L) (A B : R) : ev h φ ξ (gD (pX h) A B) = gD ξ (ev h φ ξ A) (ev h φ ξ B) ∧ ev h φ ξ (gS (pC h a) (pC h b) (pX h) A B) = gS (φ a) (φ b) ξ (ev h φ ξ A) (ev h φ ξ B) ∧ ev h φ ξ (gM (pC h a) (pC h b) (pX h) A B) = gM (φ a) (φ b) ξ (ev h φ ξ A) (ev h φ ξ B) := by
  have hh := ev_hom h hφ ξ
  have e0 := ev_X h hφ ξ
  have ea := ev_C h hφ ξ a
  have eb := ev_C h hφ ξ b
  have n2 : ev h φ ξ 2 = 2 := by rw [show (2 : R) = 1 + 1 by grind, hm_add hh, hm_one hh]; grind
  have n4 : ev h φ ξ 4 = 4 := by rw [show (4 : R) = 1 + 1 + 1 + 1 by grind, hm_add hh, hm_add hh, hm_add hh, hm_one hh]; grind
  refine ⟨?_, ?_, ?_⟩
  · unfold gD; rw [hm_sub hh, hm_mul hh, e0]
  · unfold gS; simp only [hm_mul hh, hm_add hh, n2, e0, ea, eb]
  · unfold gM; simp only [hm_mul hh, hm_add hh, hm_sub hh, n4, e0, ea, eb]
theorem hom_ns {F L : Type} [mFld F] [mFld L] {φ : F → L} (hφ : isHom φ) {a b : F} (h2 : (2 : F) ≠ 0) (hns : 4 * a * a * a + 27 * b * b ≠ 0) : (2 : L) ≠ 0 ∧ 4 * φ a * φ a * φ a + 27 * φ b * φ b ≠ 0 := by
  have h1 : (1 : L) ≠ 0 := fun z => Lean.Grind.Field.zero_ne_one z.symm
  have n : ∀ n : Nat, φ (OfNat.ofNat (α := F) n) = OfNat.ofNat (α := L) n := fun n => by
    induction n with
    | zero => exact hm_zero hφ
    | succ n ih => rw [Lean.Grind.Semiring.ofNat_succ (α := F) n, Lean.Grind.Semiring.ofNat_succ (α := L) n, hm_add hφ, ih, hm_one hφ]
  refine ⟨?_, ?_⟩
  · rw [← n 2]; exact hm_ne hφ h1 h2
  · have := hm_ne hφ h1 hns
    rwa [hm_add hφ, hm_mul hφ, hm_mul hφ, hm_mul hφ, hm_mul hφ, hm_mul hφ, n 4, n 27] at this
theorem stp_ev {F R : Type} [mFld F] [mRng R] {co : R → Nat → F} {L : Type} [mFld L] (h : isPol co) {φ : F → L} (hφ : isHom φ) {a b : F} (h2 : (2 : F) ≠ 0) (hns : 4 * a * a * a + 27 * b * b ≠ 0) {W : Pt L} {Q : L × L} (hW : onE (φ a) (φ b) W) (hQ : onE (φ a) (φ b) (some Q)) {p q r : R × R} (k : gStp h a b p q r) (hq : evp h φ Q.1 q W) (hp : evp h φ Q.1 p (ad (φ a) W (ng (some Q)))) : evp h φ Q.1 r (ad (φ a) W (some Q)) := by
  obtain ⟨n2, nn⟩ := hom_ns hφ h2 hns
  obtain ⟨c, c0, g1, g2, g3⟩ := xq n2 nn hW hQ
  obtain ⟨κ, κ0, q1, q2⟩ := hq
  obtain ⟨l, l0, p1, p2⟩ := hp
  obtain ⟨k1, k2, k3⟩ := k
  have hh := ev_hom h hφ Q.1
  obtain ⟨v1, v2, v3⟩ := ev_g h hφ a b Q.1 q.1 q.2
  have w1 := congrArg (ev h φ Q.1) k1
  have w2 := congrArg (ev h φ Q.1) k2
  have w3 := congrArg (ev h φ Q.1) k3
  rw [hm_mul hh, hm_mul hh, v1, q1, q2, p2] at w1
  rw [hm_add hh, hm_mul hh, hm_mul hh, v2, q1, q2, p1, p2] at w2
  rw [hm_mul hh, v3, q1, q2, p1] at w3
  have s1 : gD Q.1 (κ * xA W) (κ * xB W) * gD Q.1 (κ * xA W) (κ * xB W) = κ * κ * (gD Q.1 (xA W) (xB W) * gD Q.1 (xA W) (xB W)) := by unfold gD; grind
  have s2 : gS (φ a) (φ b) Q.1 (κ * xA W) (κ * xB W) = κ * κ * gS (φ a) (φ b) Q.1 (xA W) (xB W) := by unfold gS; grind
  have s3 : gM (φ a) (φ b) Q.1 (κ * xA W) (κ * xB W) = κ * κ * gM (φ a) (φ b) Q.1 (xA W) (xB W) := by unfold gM; grind
  rw [s1, g1] at w1; rw [s2, g2] at w2; rw [s3, g3] at w3
  have r1 := rl_ev (k := κ * κ * c) (X := xA (ad (φ a) W (some Q))) (Z := xB (ad (φ a) W (some Q))) (X' := xA (ad (φ a) W (ng (some Q)))) (Z' := xB (ad (φ a) W (ng (some Q)))) (A := ev h φ Q.1 r.1) (B := ev h φ Q.1 r.2) l0 (xAB _) (by rw [← w1]; grind) (by rw [← w2]; grind) (by rw [← w3]; grind)
  have hl := Lean.Grind.Field.mul_inv_cancel l0
  have kk : l⁻¹ * (κ * κ * c) ≠ 0 := fun z => by
    have : κ * (κ * c) = 0 := by
      have : l * (l⁻¹ * (κ * κ * c)) = l * 0 := by rw [z]
      grind
    rcases Lean.Grind.Field.of_mul_eq_zero this with w | w
    · exact κ0 w
    · rcases Lean.Grind.Field.of_mul_eq_zero w with w | w
      · exact κ0 w
      · exact c0 w
  refine ⟨l⁻¹ * (κ * κ * c), kk, ?_, ?_⟩
  · rw [show l⁻¹ * (κ * κ * c) * xA (ad (φ a) W (some Q)) = l⁻¹ * (κ * κ * c * xA (ad (φ a) W (some Q))) by grind, r1.1]; grind
  · rw [show l⁻¹ * (κ * κ * c) * xB (ad (φ a) W (some Q)) = l⁻¹ * (κ * κ * c * xB (ad (φ a) W (some Q))) by grind, r1.2]; grind
