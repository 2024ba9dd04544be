/-! sums over lists -/
def ls {α K : Type} [mRng K] (f : α → K) : List α → K
  | [] => 0
  | c :: l => f c + ls f l
theorem ls_app {α K : Type} [mRng K] (f : α → K) : ∀ l m : List α, ls f (l ++ m) = ls f l + ls f m
  | [], m => by show ls f m = 0 + ls f m; grind
  | c :: l, m => by show f c + ls f (l ++ m) = f c + ls f l + ls f m; rw [ls_app f l m]; grind
theorem ls_map {α β K : Type} [mRng K] (f : β → K) (g : α → β) : ∀ l : List α, ls f (l.map g) = ls (fun c => f (g c)) l
  | [] => rfl
  | c :: l => by show f (g c) + ls f (l.map g) = f (g c) + ls (fun c => f (g c)) l; rw [ls_map f g l]
theorem ls_ext {α K : Type} [mRng K] {f g : α → K} : ∀ {l : List α}, (∀ c, c ∈ l → f c = g c) → ls f l = ls g l
  | [], _ => rfl
  | c :: l, h => by show f c + ls f l = g c + ls g l; rw [h c (List.mem_cons_self ..), ls_ext (fun d hd => h d (List.mem_cons_of_mem _ hd))]
theorem ls_add {α K : Type} [mRng K] (f g : α → K) : ∀ l : List α, ls (fun c => f c + g c) l = ls f l + ls g l
  | [] => by show (0 : K) = 0 + 0; grind
  | c :: l => by show f c + g c + ls (fun c => f c + g c) l = (f c + ls f l) + (g c + ls g l); rw [ls_add f g l]; grind
theorem ls_mul {α K : Type} [mRng K] (k : K) (f : α → K) : ∀ l : List α, ls (fun c => k * f c) l = k * ls f l
  | [] => by show (0 : K) = k * 0; grind
  | c :: l => by show k * f c + ls (fun c => k * f c) l = k * (f c + ls f l); rw [ls_mul k f l]; grind
theorem nd_mid {α : Type} {c : α} {s t : List α} (h : (s ++ c :: t).Nodup) : (s ++ t).Nodup ∧ c ∉ s ++ t := by
  have h1 := List.nodup_append.mp h
  have h2 := List.nodup_cons.mp h1.2.1
  refine ⟨List.nodup_append.mpr ⟨h1.1, h2.2, fun a ha b hb => h1.2.2 a ha b (List.mem_cons_of_mem _ hb)⟩, fun hc => ?_⟩
  rcases List.mem_append.mp hc with k | k
  · exact h1.2.2 c k c (List.mem_cons_self ..) rfl
  · exact h2.1 k
theorem ls_perm {α K : Type} [mRng K] (f : α → K) : ∀ (l m : List α), l.Nodup → m.Nodup → (∀ c, c ∈ l ↔ c ∈ m) → ls f l = ls f m
  | [], m, _, _, h => by
    cases m with
    | nil => rfl
    | cons c m => exact absurd ((h c).mpr (List.mem_cons_self ..)) (List.not_mem_nil)
  | c :: l, m, hl, hm, h => by
    obtain ⟨s, t, e⟩ := List.append_of_mem ((h c).mp (List.mem_cons_self ..))
    subst e
    have hl' := List.nodup_cons.mp hl
    obtain ⟨q1, q2⟩ := nd_mid hm
    have ih := ls_perm f l (s ++ t) hl'.2 q1 (fun d => by
      have hd := h d
      rw [List.mem_cons, List.mem_append, List.mem_cons] at hd
      rw [List.mem_append]
      constructor
      · intro k
        have ne : d ≠ c := fun z => hl'.1 (by rw [← z]; exact k)
        rcases hd.mp (Or.inr k) with w | w | w
        · exact Or.inl w
        · exact absurd w ne
        · exact Or.inr w
      · intro k
        have ne : d ≠ c := fun z => q2 (by rw [List.mem_append, ← z]; exact k)
        rcases hd.mpr (by rcases k with k | k; exact Or.inl k; exact Or.inr (Or.inr k)) with w | w
        · exact absurd w ne
        · exact w)
    show f c + ls f l = _
    rw [ih, ls_app, ls_app]
    show f c + (ls f s + ls f t) = ls f s + (f c + ls f t); grind
/-- a list without repeats within another that is no longer: they have the same -/
theorem nd_sub {α : Type} : ∀ (l m : List α), l.Nodup → m.Nodup → (∀ c, c ∈ l → c ∈ m) → l.length ≤ m.length ∧ (m.length ≤ l.length → ∀ c, c ∈ m → c ∈ l)
  | [], m, _, _, _ => ⟨Nat.zero_le _, fun h c hc => by
      cases m with
      | nil => exact hc
      | cons d m => exact absurd h (by show ¬ (m.length + 1 ≤ 0); omega)⟩
  | c :: l, m, hl, hm, h => by
    obtain ⟨s, t, e⟩ := List.append_of_mem (h c (List.mem_cons_self ..))
    subst e
    have hl' := List.nodup_cons.mp hl
    obtain ⟨q1, q2⟩ := nd_mid hm
    obtain ⟨i1, i2⟩ := nd_sub l (s ++ t) hl'.2 q1 (fun d hd => by
      have ne : d ≠ c := fun z => hl'.1 (by rw [← z]; exact hd)
      have := h d (List.mem_cons_of_mem _ hd)
      rw [List.mem_append, List.mem_cons] at this
      rw [List.mem_append]
      rcases this with w | w | w
      · exact Or.inl w
      · exact absurd w ne
      · exact Or.inr w)
    rw [List.length_append] at i1 i2
    refine ⟨by rw [List.length_append]; show l.length + 1 ≤ s.length + (t.length + 1); omega, fun hle d hd => ?_⟩
    rw [List.length_append] at hle
    have hle' : s.length + (t.length + 1) ≤ l.length + 1 := hle
    by_cases z : d = c
    · rw [z]; exact List.mem_cons_self ..
    · refine List.mem_cons_of_mem _ (i2 (by omega) d ?_)
      rw [List.mem_append, List.mem_cons] at hd
      rw [List.mem_append]
      rcases hd with w | w | w
      · exact Or.inl w
      · exact absurd w z
      · exact Or.inr w
theorem ls_fl {α K : Type} [mRng K] {f : α → K} {q : α → Prop} : ∀ {l : List α}, (∀ c, c ∈ l → ¬ q c → f c = 0) → ls f l = ls f (fl q l)
  | [], _ => rfl
  | c :: l, h => by
    have ih := ls_fl (f := f) (q := q) (l := l) (fun d hd => h d (List.mem_cons_of_mem _ hd))
    unfold fl at *
    by_cases k : q c
    · rw [List.filter_cons_of_pos (by simp [k])]
      show f c + ls f l = f c + ls f _
      rw [ih]
    · rw [List.filter_cons_of_neg (by simp [k])]
      show f c + ls f l = _
      rw [h c (List.mem_cons_self ..) k, ih]; grind
theorem ls_range {K : Type} [mRng K] (f : Nat → K) : ∀ n : Nat, ls f (List.range n) = rs n f
  | 0 => rfl
  | n + 1 => by
    rw [List.range_succ, ls_app, ls_range f n]
    show rs n f + (f n + 0) = rs n f + f n; grind
/-! derivatives -/
noncomputable def pD {F R : Type} [mRng F] [mRng R] {co : R → Nat → F} (h : isPol co) (p : R) : R := Classical.choose (po_mk h (fun n => OfNat.ofNat (α := F) (n + 1) * co p (n + 1)) (by obtain ⟨d, hd⟩ := po_end h p; exact ⟨d, fun n hn => by rw [hd (n + 1) (by omega)]; grind⟩))
theorem co_D {F R : Type} [mRng F] [mRng R] {co : R → Nat → F} (h : isPol co) (p : R) (n : Nat) : co (pD h p) n = OfNat.ofNat (α := F) (n + 1) * co p (n + 1) :=
  congrFun (Classical.choose_spec (po_mk h (fun n => OfNat.ofNat (α := F) (n + 1) * co p (n + 1)) (by obtain ⟨d, hd⟩ := po_end h p; exact ⟨d, fun n hn => by rw [hd (n + 1) (by omega)]; grind⟩))) n
theorem pD_add {F R : Type} [mRng F] [mRng R] {co : R → Nat → F} (h : isPol co) (p q : R) : pD h (p + q) = pD h p + pD h q := po_ext h (fun n => by rw [co_D h, po_add h, po_add h, co_D h, co_D h]; grind)
theorem pD_Cm {F R : Type} [mRng F] [mRng R] {co : R → Nat → F} (h : isPol co) (c : F) (p : R) : pD h (pC h c * p) = pC h c * pD h p := po_ext h (fun n => by rw [co_D h, co_Cm h, co_Cm h, co_D h]; grind)
theorem pD_C {F R : Type} [mRng F] [mRng R] {co : R → Nat → F} (h : isPol co) (c : F) : pD h (pC h c) = 0 := po_ext h (fun n => by rw [co_D h, co_C h, if_neg (by omega), po_zero h]; grind)
theorem pD_Xm {F R : Type} [mRng F] [mRng R] {co : R → Nat → F} (h : isPol co) (p : R) : pD h (pX h * p) = p + pX h * pD h p := po_ext h (fun n => by
  rw [co_D h, co_Xs h, po_add h]
  cases n with
  | zero => rw [co_X0 h, show OfNat.ofNat (α := F) (0 + 1) = 1 from rfl]; grind
  | succ n => rw [co_Xs h, co_D h, Lean.Grind.Semiring.ofNat_succ (α := F) (n + 1)]; grind)
theorem pD_mul {F R : Type} [mRng F] [mRng R] {co : R → Nat → F} (h : isPol co) (p q : R) : pD h (p * q) = pD h p * q + p * pD h q := by
  refine po_ind h (P := fun p => pD h (p * q) = pD h p * q + p * pD h q) ?_ (fun c p ih => ?_) p
  · rw [show (0 : R) * q = 0 by grind, show pD h (0 : R) = 0 by rw [← pC_zero h, pD_C, pC_zero]]; grind
  · rw [show (pC h c + pX h * p) * q = pC h c * q + pX h * (p * q) by grind, pD_add, pD_Cm, pD_Xm, ih, pD_add, pD_C, pD_Xm]; grind
theorem pD_pow {F R : Type} [mRng F] [mRng R] {co : R → Nat → F} (h : isPol co) (f : R) : ∀ n : Nat, pD h (f ^ (n + 1)) = OfNat.ofNat (α := R) (n + 1) * (f ^ n * pD h f)
  | 0 => by
    rw [Lean.Grind.Semiring.pow_succ, Lean.Grind.Semiring.pow_zero, show (1 : R) * f = f by grind, show OfNat.ofNat (α := R) (0 + 1) = 1 from rfl]; grind
  | n + 1 => by
    rw [Lean.Grind.Semiring.pow_succ, pD_mul, pD_pow h f n, Lean.Grind.Semiring.ofNat_succ (α := R) (n + 1), Lean.Grind.Semiring.pow_succ]
    generalize OfNat.ofNat (α := R) (n + 1) = k
    generalize f ^ n = w
    grind
/-! sums of values over the whole prime field -/
noncomputable def lam {F R : Type} [mRng F] [mRng R] {co : R → Nat → F} (h : isPol co) (els : List F) (Q : R) : F := ls (fun c => ev h (fun x => x) c Q) els
theorem lam_add {F R : Type} [mRng F] [mRng R] {co : R → Nat → F} (h : isPol co) (els : List F) (p q : R) : lam h els (p + q) = lam h els p + lam h els q := by
  unfold lam; rw [← ls_add]; exact ls_ext (fun c _ => hm_add (ev_hom h hm_id c) p q)
theorem lam_Cm {F R : Type} [mRng F] [mRng R] {co : R → Nat → F} (h : isPol co) (els : List F) (k : F) (p : R) : lam h els (pC h k * p) = k * lam h els p := by
  unfold lam; rw [← ls_mul]; exact ls_ext (fun c _ => by rw [hm_mul (ev_hom h hm_id c), ev_C h hm_id])
theorem X1_pow {F R : Type} [mFld F] [mRng R] {co : R → Nat → F} (h : isPol co) : ∀ n : Nat, sz h ((pX h + 1) ^ (n + 1)) = n + 1 + 1 ∧ co ((pX h + 1) ^ (n + 1)) (n + 1) = 1 ∧ co ((pX h + 1) ^ (n + 1)) n = OfNat.ofNat (n + 1) := by
  have e1 : pX h + 1 = pX h - pC h (-1) := by rw [pC_neg, pC_one]; grind
  intro n
  obtain ⟨h1, h2⟩ := XC_pow h (-1 : F) (n + 1)
  rw [← e1] at h1 h2
  refine ⟨h1, h2, ?_⟩
  clear h1 h2
  induction n with
  | zero =>
    rw [Lean.Grind.Semiring.pow_one, po_add h, co_X h, if_neg (by omega), po_one h]
    show 0 + (1 : F) = OfNat.ofNat (0 + 1)
    rw [show OfNat.ofNat (α := F) (0 + 1) = 1 from rfl]; grind
  | succ n ih =>
    obtain ⟨h1, h2⟩ := XC_pow h (-1 : F) (n + 1)
    rw [← e1] at h1 h2
    rw [Lean.Grind.Semiring.pow_succ, show (pX h + 1) ^ (n + 1) * (pX h + 1) = pX h * (pX h + 1) ^ (n + 1) + (pX h + 1) ^ (n + 1) by grind, po_add h, co_Xs h, ih, h2, Lean.Grind.Semiring.ofNat_succ (α := F) (n + 1)]
theorem X_low {F R : Type} [mFld F] [mRng R] {co : R → Nat → F} (h : isPol co) : ∀ n : Nat, co (pX h ^ (n + 1)) n = 0
  | 0 => by rw [Lean.Grind.Semiring.pow_one, co_X h, if_neg (by omega)]
  | n + 1 => by rw [Lean.Grind.Semiring.pow_succ, show pX h ^ (n + 1) * pX h = pX h * pX h ^ (n + 1) by grind, co_Xs h, X_low h n]
theorem lam_small {F R : Type} [mFld F] [mRng R] {co : R → Nat → F} (h : isPol co) {p : Nat} {els : List F} (k : isFp F p els) (hch : ∀ m, 0 < m → m < p → OfNat.ofNat (α := F) m ≠ 0) : ∀ (d : Nat) (Q : R), d + 1 ≤ p → sz h Q ≤ d → lam h els Q = 0
  | 0, Q, _, hQ => by
    rw [sz_0 h (Nat.le_zero.mp hQ)]
    have := lam_Cm h els 0 (0 : R)
    rw [pC_zero, show (0 : R) * 0 = 0 by grind] at this
    rw [this]; grind
  | d + 1, Q, hd, hQ => by
    have c0 := hch (d + 1) (by omega) (by omega)
    have hi := Lean.Grind.Field.mul_inv_cancel c0
    obtain ⟨h1, h2, h3⟩ := X1_pow h d
    obtain ⟨b1, b2⟩ := X_pow h (d + 1)
    let c := co Q d * (OfNat.ofNat (α := F) (d + 1))⁻¹
    -- the difference has sum 0
    have sh : lam h els ((pX h + 1) ^ (d + 1) - pX h ^ (d + 1)) = 0 := by
      have e1 : lam h els ((pX h + 1) ^ (d + 1)) = lam h els (pX h ^ (d + 1)) := by
        unfold lam
        have : ls (fun c => ev h (fun x => x) c ((pX h + 1) ^ (d + 1))) els = ls (fun c => ev h (fun x => x) (c + 1) (pX h ^ (d + 1))) els := ls_ext (fun c _ => by
          rw [hm_pow (ev_hom h hm_id c), hm_pow (ev_hom h hm_id (c + 1)), hm_add (ev_hom h hm_id c), ev_X h hm_id, ev_X h hm_id, hm_one (ev_hom h hm_id c)])
        rw [this, ← ls_map (fun c => ev h (fun x => x) c (pX h ^ (d + 1))) (fun c => c + 1)]
        refine ls_perm _ _ _ ?_ k.1 (fun c => ⟨fun _ => k.2.1 c, fun _ => List.mem_map.mpr ⟨c - 1, k.2.1 _, by grind⟩⟩)
        unfold List.Nodup
        rw [List.pairwise_map]
        exact List.Pairwise.imp (fun hne z => hne (by grind)) k.1
      have e2 := lam_add h els ((pX h + 1) ^ (d + 1) - pX h ^ (d + 1)) (pX h ^ (d + 1))
      rw [show (pX h + 1) ^ (d + 1) - pX h ^ (d + 1) + pX h ^ (d + 1) = (pX h + 1) ^ (d + 1) by grind, e1] at e2
      grind
    have e3 : Q = (Q - pC h c * ((pX h + 1) ^ (d + 1) - pX h ^ (d + 1))) + pC h c * ((pX h + 1) ^ (d + 1) - pX h ^ (d + 1)) := by grind
    have ih := lam_small h k hch d (Q - pC h c * ((pX h + 1) ^ (d + 1) - pX h ^ (d + 1))) (by omega) (sz_le h (fun n hn => by
      rw [po_sub h, co_Cm h, po_sub h]
      by_cases e : n = d
      · rw [e, h3, X_low h d]
        show co Q d - co Q d * (OfNat.ofNat (α := F) (d + 1))⁻¹ * (OfNat.ofNat (d + 1) - 0) = 0
        grind
      · by_cases e' : n = d + 1
        · rw [e', h2, b2, sz_end h Q (by omega)]; grind
        · rw [sz_end h Q (by omega), sz_end h _ (show sz h ((pX h + 1) ^ (d + 1)) ≤ n by omega), sz_end h _ (show sz h (pX h ^ (d + 1)) ≤ n by omega)]; grind))
    rw [e3, lam_add, lam_Cm, ih, sh]; grind
