/-! the kernel of all points -/
theorem co_Xp {F R : Type} [mRng F] [mRng R] {co : R → Nat → F} (h : isPol co) : ∀ (m n : Nat) (q : R), co (pX h ^ m * q) n = if n < m then 0 else co q (n - m)
  | 0, n, q => by rw [Lean.Grind.Semiring.pow_zero, if_neg (by omega), show (1 : R) * q = q by grind, Nat.sub_zero]
  | m + 1, n, q => by
    rw [Lean.Grind.Semiring.pow_succ, show pX h ^ m * pX h * q = pX h * (pX h ^ m * q) by grind]
    cases n with
    | zero => rw [co_X0 h, if_pos (by omega)]
    | succ n =>
      rw [co_Xs h, co_Xp h m n q]
      by_cases k : n < m
      · rw [if_pos k, if_pos (by omega)]
      · rw [if_neg k, if_neg (by omega), show n + 1 - (m + 1) = n - m by omega]
theorem lam_mid {F R : Type} [mFld F] [mRng R] {co : R → Nat → F} (h : isPol co) {p : Nat} {els : List F} (k : isFp F p els) (hch : ∀ m, 0 < m → m < p → OfNat.ofNat (α := F) m ≠ 0) {Q : R} (sQ : sz h Q + 2 ≤ 2 * p) (cQ : co Q (p - 1) = 0) : lam h els Q = 0 := by
  have p2 := fp_pos k
  obtain ⟨q0, h0⟩ := po_mk h (fun n => if n < p then co Q n else 0) ⟨p, fun n hn => if_neg (by omega)⟩
  obtain ⟨q1, h1⟩ := po_mk h (fun n => co Q (n + p)) ⟨sz h Q, fun n hn => sz_end h Q (by omega)⟩
  have e1 : Q = q0 + pX h ^ p * q1 := po_ext h (fun n => by
    rw [po_add h, co_Xp h, h0, h1]
    by_cases c : n < p
    · simp only [if_pos c]; grind
    · simp only [if_neg c, show n - p + p = n by omega]; grind)
  have s0 : sz h q0 ≤ p - 1 := sz_le h (fun n hn => by
    rw [h0]
    by_cases c : n < p
    · simp only [if_pos c]; rw [show n = p - 1 by omega]; exact cQ
    · simp only [if_neg c])
  have s1 : sz h (pX h * q1) ≤ p - 1 := sz_le h (fun n hn => by
    cases n with
    | zero => omega
    | succ n => rw [co_Xs h, h1]; exact sz_end h Q (by omega))
  have e2 : lam h els Q = lam h els (q0 + pX h * q1) := by
    unfold lam
    refine ls_ext (fun c _ => ?_)
    have hh := ev_hom h (hm_id (F := F)) c
    rw [e1, hm_add hh, hm_add hh, hm_mul hh, hm_mul hh, hm_pow hh, ev_X h hm_id, k.2.2.2 c]
  rw [e2, lam_add, lam_small h k hch (p - 1) q0 (by omega) s0, lam_small h k hch (p - 1) _ (by omega) s1]; grind
theorem ev_D_f {F R : Type} [mRng F] [mRng R] {co : R → Nat → F} (h : isPol co) (a b c : F) : ev h (fun x => x) c (pD h (fC h a b)) = 3 * c * c + a := by
  have hh := ev_hom h (hm_id (F := F)) c
  have dX : pD h (pX h) = 1 := by
    have := pD_Xm h (1 : R)
    rw [show pX h * 1 = pX h by grind, show pD h (1 : R) = 0 by rw [← pC_one h, pD_C]] at this
    rw [this]; grind
  unfold fC
  rw [pD_add, pD_add, pD_mul, pD_mul, pD_Cm, pD_C, dX]
  simp only [hm_add hh, hm_mul hh, hm_zero hh, hm_one hh, ev_X h hm_id, ev_C h hm_id]; grind
theorem sz_D_f {F R : Type} [mFld F] [mRng R] {co : R → Nat → F} (h : isPol co) (a b : F) : sz h (pD h (fC h a b)) ≤ 3 := sz_le h (fun n hn => by rw [co_D h, sz_end h _ (by rw [sz_f]; omega)]; grind)
/-- the sums over all points -/
theorem lam_f1 {F R : Type} [mFld F] [mRng R] {co : R → Nat → F} (h : isPol co) {p e : Nat} {els : List F} (k : isFp F p els) (he : p = 2 * e + 1) (e3 : 3 ≤ e) (hch : ∀ m, 0 < m → m < p → OfNat.ofNat (α := F) m ≠ 0) (hp : OfNat.ofNat (α := F) p = 0) (a b : F) :
    lam h els (pD h (fC h a b)) = 0 ∧ lam h els (fC h a b ^ e * pD h (fC h a b)) = 0 := by
  have s3 := sz_D_f h a b
  have sfe := sz_pw h (sz_f h a b) e
  refine ⟨lam_small h k hch 3 _ (by omega) s3, lam_mid h k hch ?_ ?_⟩
  · have := sm_mul h (Nat.le_of_eq sfe) s3; omega
  · have e1 := pD_pow h (fC h a b) e
    have e2 : co (pD h (fC h a b ^ (e + 1))) (p - 1) = 0 := by rw [co_D h, show p - 1 + 1 = p by omega, hp]; grind
    rw [e1] at e2
    have e4 : OfNat.ofNat (α := R) (e + 1) * (fC h a b ^ e * pD h (fC h a b)) = pC h (OfNat.ofNat (α := F) (e + 1)) * (fC h a b ^ e * pD h (fC h a b)) := by
      have := pC_num h (e + 1) (1 : F)
      rw [pC_one, show OfNat.ofNat (α := F) (e + 1) * 1 = OfNat.ofNat (e + 1) by grind] at this
      rw [this]; grind
    rw [e4, co_Cm h] at e2
    rcases Lean.Grind.Field.of_mul_eq_zero e2 with z | z
    · exact absurd z (hch (e + 1) (by omega) (by omega))
    · exact z
theorem lam_f2 {F R : Type} [mFld F] [mRng R] {co : R → Nat → F} (h : isPol co) {p e : Nat} {els : List F} (k : isFp F p els) (he : p = 2 * e + 1) (e4 : 4 ≤ e) (hch : ∀ m, 0 < m → m < p → OfNat.ofNat (α := F) m ≠ 0) (hp : OfNat.ofNat (α := F) p = 0) (a b : F) :
    lam h els (fC h a b + fC h a b + pX h * pD h (fC h a b)) = 0 ∧ lam h els (fC h a b ^ e * (fC h a b + fC h a b + pX h * pD h (fC h a b))) = 0 := by
  have s3 := sz_D_f h a b
  have sf := sz_f h a b
  have sfe := sz_pw h sf e
  have s4 : sz h (fC h a b + fC h a b + pX h * pD h (fC h a b)) ≤ 4 := sz_add h (sz_add h (by omega) (by omega)) (by have := sm_mul h (Nat.le_of_eq (sz_X h)) s3; omega)
  refine ⟨lam_small h k hch 4 _ (by omega) s4, lam_mid h k hch ?_ ?_⟩
  · have := sm_mul h (Nat.le_of_eq sfe) s4; omega
  · have e1 := pD_pow h (fC h a b) e
    have e2 : co (pD h (pX h * fC h a b ^ (e + 1))) (p - 1) = 0 := by rw [co_D h, show p - 1 + 1 = p by omega, hp]; grind
    -- twice that
    have n2 : OfNat.ofNat (α := R) (e + 1) = pC h (OfNat.ofNat (α := F) (e + 1)) := by
      have := pC_num h (e + 1) (1 : F)
      rw [pC_one, show OfNat.ofNat (α := F) (e + 1) * 1 = OfNat.ofNat (e + 1) by grind] at this
      rw [this]; grind
    have n3 : OfNat.ofNat (α := F) (e + 1) + OfNat.ofNat (α := F) (e + 1) = 1 := by
      rw [← Lean.Grind.Semiring.ofNat_add, show e + 1 + (e + 1) = p + 1 by omega, Lean.Grind.Semiring.ofNat_succ (α := F) p, hp]; grind
    have n4 : OfNat.ofNat (α := R) (e + 1) + OfNat.ofNat (α := R) (e + 1) = 1 := by rw [n2, ← pC_add, n3, pC_one]
    have e5 : pD h (pX h * fC h a b ^ (e + 1)) + pD h (pX h * fC h a b ^ (e + 1)) = fC h a b ^ e * (fC h a b + fC h a b + pX h * pD h (fC h a b)) := by
      rw [pD_Xm, e1, Lean.Grind.Semiring.pow_succ]
      generalize OfNat.ofNat (α := R) (e + 1) = w at *
      generalize fC h a b ^ e = g
      have : g * fC h a b + pX h * (w * (g * pD h (fC h a b))) + (g * fC h a b + pX h * (w * (g * pD h (fC h a b)))) = g * (fC h a b + fC h a b) + (w + w) * (pX h * (g * pD h (fC h a b))) := by grind
      rw [this, n4]; grind
    rw [← e5, po_add h, e2]; grind
theorem T_all {F R : Type} [mFld F] [mRng R] {co : R → Nat → F} (h : isPol co) {p e : Nat} {els : List F} (k : isFp F p els) (he : p = 2 * e + 1) {a b : F} {h2 : (2 : F) ≠ 0} {hns : 4 * a * a * a + 27 * b * b ≠ 0} {S : EP a b} (o : isOrd (eo h2 hns) ez p S) (hN : npts a b e els = p) (Q : R) :
    rs (p - 1) (fun i => ev h (fun x => x) (kx h2 hns S (i + 1)) Q) = lam h els Q + lam h els (fC h a b ^ e * Q) := by
  have hid := hm_id (F := F)
  -- halves
  have e1 : rs (p - 1) (fun i => ev h (fun x => x) (kx h2 hns S (i + 1)) Q) = rs e (fun i => ev h (fun x => x) (kx h2 hns S (i + 1)) Q + ev h (fun x => x) (kx h2 hns S (i + 1)) Q) := by
    rw [show p - 1 = 2 * e by omega, rs_fold0]
    refine rs_ext (fun i hi => ?_)
    rw [show 2 * e - 1 - i + 1 = p - (i + 1) by omega, (k_negx o (i := i + 1) (by omega) (by omega)).1]
  have mem : ∀ c, c ∈ (List.range e).map (fun i => kx h2 hns S (i + 1)) → c ∈ ssl a b e els := fun c hc => by
    obtain ⟨i, hi, rfl⟩ := List.mem_map.mp hc
    have hi' := List.mem_range.mp hi
    have on := k_on o (i := i + 1) (by omega) (by omega)
    have y0 : ky h2 hns S (i + 1) ≠ 0 := fun z => by have := (k_y0 o (i := i + 1) (by omega) (by omega)).mp z; omega
    have cb1 : cb a b (kx h2 hns S (i + 1)) = ky h2 hns S (i + 1) * ky h2 hns S (i + 1) := on.symm
    refine fl_mem.mpr ⟨k.2.1 _, fun z => ?_, ?_⟩
    · rw [cb1] at z
      rcases Lean.Grind.Field.of_mul_eq_zero z with w | w <;> exact y0 w
    · rw [cb1, rp_mul, ← rp_add]
      have := k.2.2.2 (ky h2 hns S (i + 1))
      rw [he, show 2 * e + 1 = e + e + 1 by omega, Lean.Grind.Semiring.pow_succ] at this
      have i := Lean.Grind.Field.mul_inv_cancel y0
      grind
  have nd : ((List.range e).map (fun i => kx h2 hns S (i + 1))).Nodup := by
    unfold List.Nodup
    rw [List.pairwise_map]
    exact List.Pairwise.imp_of_mem (fun ha hb hne z => hne (by
      have h1 := List.mem_range.mp ha; have h2 := List.mem_range.mp hb
      have := k_dist o (by omega) (by omega) (by omega) (by omega) z
      omega)) List.nodup_range
  obtain ⟨l1, l2⟩ := nd_sub _ _ nd (fl_nodup k.1) mem
  have len : (List.map (fun i => kx h2 hns S (i + 1)) (List.range e)).length = e := by rw [List.length_map, List.length_range]
  have ls1 : (fl (fun c => cb a b c ≠ 0 ∧ cb a b c ^ e = 1) els).length = (ssl a b e els).length := rfl
  have sl : (ssl a b e els).length = e ∧ (zsl a b els).length = 0 := by
    unfold npts at hN
    rw [len] at l1
    have : e ≤ (ssl a b e els).length := l1
    omega
  have same : ∀ c, c ∈ (List.range e).map (fun i => kx h2 hns S (i + 1)) ↔ c ∈ ssl a b e els := fun c => ⟨mem c, l2 (by rw [len]; have : (fl (fun c => cb a b c ≠ 0 ∧ cb a b c ^ e = 1) els).length = e := sl.1; omega) c⟩
  have e2 : rs e (fun i => ev h (fun x => x) (kx h2 hns S (i + 1)) Q + ev h (fun x => x) (kx h2 hns S (i + 1)) Q) = ls (fun c => ev h (fun x => x) c Q + ev h (fun x => x) c Q) (ssl a b e els) := by
    have q := ls_perm (fun c => ev h (fun x => x) c Q + ev h (fun x => x) c Q) _ _ nd (fl_nodup k.1) same
    rw [ls_map, ls_range] at q
    exact q
  rw [e1, e2]
  unfold lam
  rw [← ls_add]
  have e3 : ls (fun c => ev h (fun x => x) c Q + ev h (fun x => x) c (fC h a b ^ e * Q)) els = ls (fun c => ev h (fun x => x) c Q + ev h (fun x => x) c (fC h a b ^ e * Q)) (fl (fun c => cb a b c ≠ 0 ∧ cb a b c ^ e = 1) els) := ls_fl (fun c hc nq => by
    have hh := ev_hom h hid c
    have c0 : cb a b c ≠ 0 := fun z => by
      have : c ∈ zsl a b els := fl_mem.mpr ⟨hc, z⟩
      cases q : zsl a b els with
      | nil => rw [q] at this; exact List.not_mem_nil this
      | cons d l => rw [q] at sl; exact absurd sl.2 (by show ¬ (l.length + 1 = 0); omega)
    have c1 : cb a b c ^ e ≠ 1 := fun z => nq ⟨c0, z⟩
    have c2 := (euler k he c0).resolve_left c1
    rw [hm_mul hh, hm_pow hh, show ev h (fun x => x) c (fC h a b) = cb a b c from ev_f h hid a b c, c2]; grind)
  rw [e3]
  refine ls_ext (fun c hc => ?_)
  have hh := ev_hom h hid c
  rw [hm_mul hh, hm_pow hh, show ev h (fun x => x) c (fC h a b) = cb a b c from ev_f h hid a b c, (fl_mem.mp hc).2.2]; grind
/-- the curve that a kernel makes isn't singular: over every prime field from 7 on -/
theorem velu_fp {F : Type} [mFld F] {p e : Nat} {els : List F} (k : isFp F p els) (he : p = 2 * e + 1) (e3 : 3 ≤ e) (hch : ∀ m, 0 < m → m < p → OfNat.ofNat (α := F) m ≠ 0) (hp : OfNat.ofNat (α := F) p = 0) (pp : prm p) {a b : F} {h2 : (2 : F) ≠ 0} {hns : 4 * a * a * a + 27 * b * b ≠ 0} {S : EP a b} {n : Nat} (o : isOrd (eo h2 hns) ez n S) {a' b' : F}
    (ha : a' = a - 5 * rs (n - 1) (fun i => 3 * kx h2 hns S (i + 1) * kx h2 hns S (i + 1) + a)) (hb : b' = b - 7 * rs (n - 1) (fun i => 5 * (kx h2 hns S (i + 1) * kx h2 hns S (i + 1) * kx h2 hns S (i + 1)) + 3 * (a * kx h2 hns S (i + 1)) + 2 * b)) : 4 * a' * a' * a' + 27 * b' * b' ≠ 0 := by
  by_cases n0 : OfNat.ofNat (α := F) n = 0
  · -- p divides n, and n the number of points, which is less than 2 p
    have ab := ep_ab h2 hns
    obtain ⟨all, al, len⟩ := all_ex k he (by omega) h2 a b
    have dN := ord_N ab al o
    rw [len] at dN
    have dp : p ∣ n := by
      refine Nat.dvd_of_mod_eq_zero (Classical.byContradiction (fun ne => hch (n % p) (by omega) (Nat.mod_lt _ (by omega)) ?_))
      have := Nat.div_add_mod n p
      rw [← this, Lean.Grind.Semiring.ofNat_add, Lean.Grind.Semiring.ofNat_mul, hp] at n0
      rw [← n0]; grind
    have hs := hasse k he (by omega) h2 hns
    have N0 : 0 < npts a b e els := by unfold npts; omega
    have N2 : npts a b e els < 2 * p := Classical.byContradiction (fun w => by
      have w' : (2 * p : Int) ≤ npts a b e els := by omega
      generalize ((npts a b e els : Nat) : Int) = N at *
      have q1 : (p : Int) - 1 ≤ N - p - 1 := by omega
      have q2 : ((p : Int) - 1) * ((p : Int) - 1) ≤ (N - p - 1) * (N - p - 1) := Int.mul_le_mul q1 q1 (by omega) (by omega)
      have q3 : (N - p - 1) * (N - p - 1) = ((p : Int) + 1 - N) * ((p : Int) + 1 - N) := by grind
      have q4 : (7 : Int) ≤ p := by omega
      have q5 : (7 : Int) * p ≤ p * p := Int.mul_le_mul_of_nonneg_right q4 (by omega)
      grind)
    have Np : npts a b e els = p := by
      obtain ⟨t, ht⟩ := Nat.dvd_trans dp dN
      have : t = 1 := Classical.byContradiction (fun w => by
        have : t = 0 ∨ 2 ≤ t := by omega
        rcases this with z | z
        · rw [z, Nat.mul_zero] at ht; omega
        · have := Nat.mul_le_mul_left p z; omega)
      rw [this, Nat.mul_one] at ht; exact ht
    have np : n = p := by
      rw [Np] at dN
      exact Nat.dvd_antisymm dN dp
    subst np
    obtain ⟨R, iR, co, h⟩ := pol_ex F
    have t1 := T_all h k he o Np (pD h (fC h a b))
    obtain ⟨f1, f2⟩ := lam_f1 h k he e3 hch hp a b
    rw [f1, f2] at t1
    simp only [ev_D_f] at t1
    have aa : a' = a := by rw [ha, t1]; grind
    have bb : b' = b := by
      by_cases e4 : 4 ≤ e
      · have t2 := T_all h k he o Np (fC h a b + fC h a b + pX h * pD h (fC h a b))
        obtain ⟨g1, g2⟩ := lam_f2 h k he e4 hch hp a b
        rw [g1, g2] at t2
        have t3 : rs (n - 1) (fun i => 5 * (kx h2 hns S (i + 1) * kx h2 hns S (i + 1) * kx h2 hns S (i + 1)) + 3 * (a * kx h2 hns S (i + 1)) + 2 * b) = 0 + 0 := by
          rw [← t2]
          refine rs_ext (fun i _ => ?_)
          have hh := ev_hom h (hm_id (F := F)) (kx h2 hns S (i + 1))
          rw [hm_add hh, hm_add hh, hm_mul hh, ev_X h hm_id, ev_D_f, ev_f h hm_id]
          generalize kx h2 hns S (i + 1) = x
          grind
        rw [hb, t3]; grind
      · have n7 : n = 7 := by omega
        have s7 : (7 : F) = 0 := by rw [n7] at hp; exact hp
        rw [hb, s7]; grind
    rw [aa, bb]; exact hns
  · exact velu_ns (h3 := hch 3 (by omega) (by omega)) o n0 ha hb
