/-! the degree at infinity of functions -/
noncomputable def vl {F R : Type} [mFld F] [mRng R] {co : R → Nat → F} {A K : Type} [mRng A] [mFld K] {h : isPol co} {a b : F} {j : R → A} {y : A} {u v : A → R} {c : isCrv h a b j y u v} {ι : A → K} (g : isGen c ι) (z : K) : Int :=
  (dA c (Classical.choose (Classical.choose_spec (g.2.2 z))) : Int) - dA c (Classical.choose (g.2.2 z))
theorem vl_eq {F R : Type} [mFld F] [mRng R] {co : R → Nat → F} {A K : Type} [mRng A] [mFld K] {h : isPol co} {a b : F} {j : R → A} {y : A} {u v : A → R} {c : isCrv h a b j y u v} {ι : A → K} (g : isGen c ι) {z : K} {s t : A} (ht : t ≠ 0) (hs : s ≠ 0) (e : z * ι t = ι s) : vl g z = (dA c t : Int) - dA c s := by
  unfold vl
  obtain ⟨t0, e0⟩ := Classical.choose_spec (Classical.choose_spec (g.2.2 z))
  generalize Classical.choose (Classical.choose_spec (g.2.2 z)) = t' at *
  generalize Classical.choose (g.2.2 z) = s' at *
  have e1 : s * t' = s' * t := by
    have : ι (s * t' - s' * t) = 0 := by rw [hm_sub g.1, hm_mul g.1, hm_mul g.1, ← e, ← e0]; grind
    have := g.2.1 _ this
    grind
  have s0 : s' ≠ 0 := fun z => by
    rcases cv_dom c (α := s) (β := t') (by rw [e1, z]; grind) with w | w
    · exact hs w
    · exact t0 w
  have d1 := dA_mul c hs t0
  have d2 := dA_mul c s0 ht
  rw [e1, d2] at d1
  omega
theorem vl_ex {F R : Type} [mFld F] [mRng R] {co : R → Nat → F} {A K : Type} [mRng A] [mFld K] {h : isPol co} {a b : F} {j : R → A} {y : A} {u v : A → R} {c : isCrv h a b j y u v} {ι : A → K} (g : isGen c ι) {z : K} (hz : z ≠ 0) : ∃ s t, s ≠ 0 ∧ t ≠ 0 ∧ z * ι t = ι s ∧ vl g z = (dA c t : Int) - dA c s := by
  obtain ⟨s, t, t0, e⟩ := g.2.2 z
  have s0 : s ≠ 0 := fun w => by
    rw [w, hm_zero g.1] at e
    rcases Lean.Grind.Field.of_mul_eq_zero e with q | q
    · exact hz q
    · exact t0 (g.2.1 _ q)
  exact ⟨s, t, s0, t0, e, vl_eq g t0 s0 e⟩
theorem vl_mul {F R : Type} [mFld F] [mRng R] {co : R → Nat → F} {A K : Type} [mRng A] [mFld K] {h : isPol co} {a b : F} {j : R → A} {y : A} {u v : A → R} {c : isCrv h a b j y u v} {ι : A → K} (g : isGen c ι) {z w : K} (hz : z ≠ 0) (hw : w ≠ 0) : vl g (z * w) = vl g z + vl g w := by
  obtain ⟨s, t, s0, t0, e, q⟩ := vl_ex g hz
  obtain ⟨s', t', s0', t0', e', q'⟩ := vl_ex g hw
  have ne : ∀ {p q : A}, p ≠ 0 → q ≠ 0 → p * q ≠ 0 := fun hp hq k => by
    rcases cv_dom c k with k | k
    · exact hp k
    · exact hq k
  have := vl_eq g (z := z * w) (ne t0 t0') (ne s0 s0') (by rw [hm_mul g.1, hm_mul g.1, ← e, ← e']; grind)
  rw [this, q, q', dA_mul c t0 t0', dA_mul c s0 s0']; omega
theorem vl_pow {F R : Type} [mFld F] [mRng R] {co : R → Nat → F} {A K : Type} [mRng A] [mFld K] {h : isPol co} {a b : F} {j : R → A} {y : A} {u v : A → R} {c : isCrv h a b j y u v} {ι : A → K} (g : isGen c ι) {z : K} (hz : z ≠ 0) (n : Nat) : z ^ n ≠ 0 ∧ vl g (z ^ n) = n * vl g z := by
  have o0 : (1 : K) ≠ 0 := fun w => Lean.Grind.Field.zero_ne_one w.symm
  have o1 : vl g (1 : K) = 0 := by
    have := vl_eq g (z := (1 : K)) (one_ne c) (one_ne c) (by grind)
    omega
  induction n with
  | zero => rw [Lean.Grind.Semiring.pow_zero]; exact ⟨o0, by rw [o1]; simp⟩
  | succ n ih =>
    rw [Lean.Grind.Semiring.pow_succ]
    refine ⟨fun w => ?_, ?_⟩
    · rcases Lean.Grind.Field.of_mul_eq_zero w with q | q
      · exact ih.1 q
      · exact hz q
    · rw [vl_mul g ih.1 hz, ih.2]; grind
theorem vl_j {F R : Type} [mFld F] [mRng R] {co : R → Nat → F} {A K : Type} [mRng A] [mFld K] {h : isPol co} {a b : F} {j : R → A} {y : A} {u v : A → R} {c : isCrv h a b j y u v} {ι : A → K} (g : isGen c ι) {p : R} {d : Nat} (hp : sz h p = d + 1) : vl g (ι (j p)) = - (2 * d : Int) := by
  have p0 : p ≠ 0 := fun z => by rw [z, sz_zero] at hp; omega
  have := vl_eq g (z := ι (j p)) (one_ne c) (j_ne c p0) (by rw [hm_one g.1]; grind)
  rw [this, dA_j, hp]
  have o : dA c (1 : A) = 0 := by rw [← hm_one c.1, dA_j, ← pC_one h, sz_C h (fun z => Lean.Grind.Field.zero_ne_one z.symm)]
  rw [o]; omega
/-- at least d at infinity -/
def Vd {F R : Type} [mFld F] [mRng R] {co : R → Nat → F} {A K : Type} [mRng A] [mFld K] {h : isPol co} {a b : F} {j : R → A} {y : A} {u v : A → R} {c : isCrv h a b j y u v} {ι : A → K} (_ : isGen c ι) (d : Nat) (z : K) : Prop := ∃ s t, t ≠ 0 ∧ z * ι t = ι s ∧ (s = 0 ∨ dA c s + d ≤ dA c t)
theorem Vd_vl {F R : Type} [mFld F] [mRng R] {co : R → Nat → F} {A K : Type} [mRng A] [mFld K] {h : isPol co} {a b : F} {j : R → A} {y : A} {u v : A → R} {c : isCrv h a b j y u v} {ι : A → K} {g : isGen c ι} {d : Nat} {z : K} (hz : z ≠ 0) (k : Vd g d z) : (d : Int) ≤ vl g z := by
  obtain ⟨s, t, t0, e, k⟩ := k
  have s0 : s ≠ 0 := fun w => by
    rw [w, hm_zero g.1] at e
    rcases Lean.Grind.Field.of_mul_eq_zero e with q | q
    · exact hz q
    · exact t0 (g.2.1 _ q)
  rw [vl_eq g t0 s0 e]
  have := k.resolve_left s0
  omega
theorem Vd_of {F R : Type} [mFld F] [mRng R] {co : R → Nat → F} {A K : Type} [mRng A] [mFld K] {h : isPol co} {a b : F} {j : R → A} {y : A} {u v : A → R} {c : isCrv h a b j y u v} {ι : A → K} (g : isGen c ι) {d : Nat} {z : K} (k : z = 0 ∨ (d : Int) ≤ vl g z) : Vd g d z := by
  by_cases hz : z = 0
  · exact ⟨0, 1, one_ne c, by rw [hz, hm_zero g.1]; grind, Or.inl rfl⟩
  · obtain ⟨s, t, s0, t0, e, q⟩ := vl_ex g hz
    have := k.resolve_left hz
    exact ⟨s, t, t0, e, Or.inr (by omega)⟩
theorem Vd_add {F R : Type} [mFld F] [mRng R] {co : R → Nat → F} {A K : Type} [mRng A] [mFld K] {h : isPol co} {a b : F} {j : R → A} {y : A} {u v : A → R} {c : isCrv h a b j y u v} {ι : A → K} {g : isGen c ι} {d : Nat} {z w : K} (hz : Vd g d z) (hw : Vd g d w) : Vd g d (z + w) := by
  obtain ⟨s, t, t0, e, k⟩ := hz
  obtain ⟨s', t', t0', e', k'⟩ := hw
  have ne : ∀ {p q : A}, p ≠ 0 → q ≠ 0 → p * q ≠ 0 := fun hp hq k => by
    rcases cv_dom c k with k | k
    · exact hp k
    · exact hq k
  refine ⟨s * t' + s' * t, t * t', ne t0 t0', by rw [hm_add g.1, hm_mul g.1, hm_mul g.1, hm_mul g.1, ← e, ← e']; grind, ?_⟩
  have dt := dA_mul c t0 t0'
  by_cases s0 : s = 0
  · by_cases s0' : s' = 0
    · left; rw [s0, s0']; grind
    · right
      have := dA_mul c s0' t0
      have := k'.resolve_left s0'
      rw [s0, show (0 : A) * t' + s' * t = s' * t by grind]; omega
  · by_cases s0' : s' = 0
    · right
      have := dA_mul c s0 t0'
      have := k.resolve_left s0
      rw [s0', show s * t' + 0 * t = s * t' by grind]; omega
    · right
      have m1 := dA_mul c s0' t0
      have m2 := dA_mul c s0 t0'
      have m3 := k.resolve_left s0
      have m4 := k'.resolve_left s0'
      have := dA_add c (α := s * t') (β := s' * t) (d := dA c t + dA c t' - d) (by omega) (by omega)
      omega
theorem Vd_mul {F R : Type} [mFld F] [mRng R] {co : R → Nat → F} {A K : Type} [mRng A] [mFld K] {h : isPol co} {a b : F} {j : R → A} {y : A} {u v : A → R} {c : isCrv h a b j y u v} {ι : A → K} {g : isGen c ι} {d e : Nat} {z w : K} (hz : Vd g d z) (hw : Vd g e w) : Vd g (d + e) (z * w) := by
  by_cases z0 : z = 0
  · exact Vd_of g (Or.inl (by rw [z0]; grind))
  · by_cases w0 : w = 0
    · exact Vd_of g (Or.inl (by rw [w0]; grind))
    · have := Vd_vl z0 hz
      have := Vd_vl w0 hw
      exact Vd_of g (Or.inr (by rw [vl_mul g z0 w0]; omega))
theorem Vd_C {F R : Type} [mFld F] [mRng R] {co : R → Nat → F} {A K : Type} [mRng A] [mFld K] {h : isPol co} {a b : F} {j : R → A} {y : A} {u v : A → R} {c : isCrv h a b j y u v} {ι : A → K} (g : isGen c ι) (k : F) : Vd g 0 (ι (j (pC h k))) := by
  by_cases k0 : k = 0
  · exact Vd_of g (Or.inl (by rw [k0, pC_zero, hm_zero c.1, hm_zero g.1]))
  · exact Vd_of g (Or.inr (by rw [vl_j g (d := 0) (sz_C h k0)]; omega))
/-- a polynomial's value near e is no more than 0 at infinity, and 0 where it isn't 0 at e -/
theorem Vd_ev {F R : Type} [mFld F] [mRng R] {co : R → Nat → F} {A K : Type} [mRng A] [mFld K] {h : isPol co} {a b : F} {j : R → A} {y : A} {u v : A → R} {c : isCrv h a b j y u v} {ι : A → K} (g : isGen c ι) (e : F) {z : K} (hz : Vd g 1 z) (p : R) : Vd g 0 (ev h (fun z => ι (j (pC h z))) (ι (j (pC h e)) + z) p) := by
  have hκ := gn_hom g
  have hz0 : Vd g 0 z := by
    by_cases z0 : z = 0
    · exact Vd_of g (Or.inl z0)
    · have := Vd_vl z0 hz; exact Vd_of g (Or.inr (by omega))
  refine po_ind h (P := fun p => Vd g 0 (ev h (fun z => ι (j (pC h z))) (ι (j (pC h e)) + z) p)) ?_ (fun k q ih => ?_) p
  · rw [hm_zero (ev_hom h hκ _)]; exact Vd_of g (Or.inl rfl)
  · rw [ev_add h hκ, ev_C h hκ, ev_Xm h hκ]
    exact Vd_add (Vd_C g k) (Vd_mul (d := 0) (e := 0) (Vd_add (Vd_C g e) hz0) ih)
theorem vl_ev {F R : Type} [mFld F] [mRng R] {co : R → Nat → F} {A K : Type} [mRng A] [mFld K] {h : isPol co} {a b : F} {j : R → A} {y : A} {u v : A → R} {c : isCrv h a b j y u v} {ι : A → K} (g : isGen c ι) {e : F} {z : K} (hz : Vd g 1 z) {p : R} (hp : ev h (fun x => x) e p ≠ 0) : ev h (fun z => ι (j (pC h z))) (ι (j (pC h e)) + z) p ≠ 0 ∧ vl g (ev h (fun z => ι (j (pC h z))) (ι (j (pC h e)) + z) p) = 0 := by
  have hκ := gn_hom g
  obtain ⟨q, hq⟩ := po_root h (p := p - pC h (ev h (fun x => x) e p)) (c := e) (by rw [hm_sub (ev_hom h hm_id _), ev_C h hm_id]; grind)
  have hh := ev_hom h hκ (ι (j (pC h e)) + z)
  have e1 : ev h (fun z => ι (j (pC h z))) (ι (j (pC h e)) + z) p = ι (j (pC h (ev h (fun x => x) e p))) + z * ev h (fun z => ι (j (pC h z))) (ι (j (pC h e)) + z) q := by
    have := congrArg (ev h (fun z => ι (j (pC h z))) (ι (j (pC h e)) + z)) hq
    rw [hm_sub hh, hm_mul hh, hm_sub hh, ev_X h hκ, ev_C h hκ, ev_C h hκ] at this
    grind
  have m := Vd_mul hz (Vd_ev g e hz q)
  have c0 : ι (j (pC h (ev h (fun x => x) e p))) ≠ 0 := fun w => hp (by
    have := g.2.1 _ w
    exact Classical.byContradiction (fun ne => j_ne c (fun q => ne (pC_inj h (by rw [q, pC_zero]))) this))
  have v0 := vl_j g (d := 0) (sz_C h hp)
  generalize ev h (fun z => ι (j (pC h z))) (ι (j (pC h e)) + z) q = w at *
  -- were it more, the number would be more too
  have no : ¬ Vd g 1 (ev h (fun z => ι (j (pC h z))) (ι (j (pC h e)) + z) p) := fun k => by
    have k2 : Vd g 1 (- 1 * (z * w)) := by
      have := Vd_mul (d := 0) (e := 1 + 0) (Vd_C g (-1)) m
      rw [pC_neg, pC_one, hm_neg c.1, hm_one c.1, hm_neg g.1, hm_one g.1] at this
      exact this
    have k3 := Vd_add k k2
    rw [e1, show ι (j (pC h (ev h (fun x => x) e p))) + z * w + -1 * (z * w) = ι (j (pC h (ev h (fun x => x) e p))) by grind] at k3
    have := Vd_vl c0 k3
    omega
  have n0 : ev h (fun z => ι (j (pC h z))) (ι (j (pC h e)) + z) p ≠ 0 := fun k => no (Vd_of g (Or.inl k))
  refine ⟨n0, ?_⟩
  have l1 := Vd_vl n0 (Vd_ev g e hz p)
  have l2 : ¬ (1 : Int) ≤ vl g (ev h (fun z => ι (j (pC h z))) (ι (j (pC h e)) + z) p) := fun k => no (Vd_of g (Or.inr k))
  omega
theorem po_mult {F R : Type} [mFld F] [mRng R] {co : R → Nat → F} (h : isPol co) (e : F) : ∀ (n : Nat) (C : R), C ≠ 0 → sz h C ≤ n → ∃ (m : Nat) (C1 : R), C = (pX h - pC h e) ^ m * C1 ∧ ev h (fun x => x) e C1 ≠ 0
  | 0, C, c0, hn => absurd (sz_0 h (Nat.le_zero.mp hn)) c0
  | n + 1, C, c0, hn => by
    by_cases z : ev h (fun x => x) e C = 0
    · obtain ⟨q, hq⟩ := po_root h z
      have q0 : q ≠ 0 := fun w => c0 (by rw [hq, w]; grind)
      obtain ⟨d, hd⟩ := sz_pos h q0
      have := sz_mul h (sz_XC h e) hd
      rw [← hq] at this
      obtain ⟨m, C1, h1, h2⟩ := po_mult h e n q q0 (by omega)
      exact ⟨m + 1, C1, by rw [hq, h1, Lean.Grind.Semiring.pow_succ]; grind, h2⟩
    · exact ⟨0, C, by rw [Lean.Grind.Semiring.pow_zero]; grind, z⟩
theorem pw7 {F R : Type} [mFld F] [mRng R] {co : R → Nat → F} (h : isPol co) (k : Nat) : ∀ (l : List F) (C : R), C ≠ 0 → l.Nodup → (∀ e, e ∈ l → dvs ((pX h - pC h e) ^ k) C) → k * l.length + 1 ≤ sz h C
  | [], C, c0, _, _ => by obtain ⟨d, hd⟩ := sz_pos h c0; rw [hd]; show k * 0 + 1 ≤ _; omega
  | e :: l, C, c0, hn, hd => by
    obtain ⟨C', e1⟩ := hd e (List.mem_cons_self ..)
    have hn' := List.nodup_cons.mp hn
    have c0' : C' ≠ 0 := fun w => c0 (by rw [e1, w]; grind)
    have ih := pw7 h k l C' c0' hn'.2 (fun e' he' => by
      have ne : e' - e ≠ 0 := fun w => hn'.1 (by have : e' = e := by grind
                                                 rw [← this]; exact he')
      have c1 : cop (pX h - pC h e') (pX h - pC h e) := cop_symm (cop_XC h (by rw [ev_XC]; exact ne))
      have c2 : ∀ i : Nat, cop (pX h - pC h e') ((pX h - pC h e) ^ i) := fun i => by
        induction i with
        | zero => rw [Lean.Grind.Semiring.pow_zero]; exact ⟨0, 1, by grind⟩
        | succ i ih => rw [Lean.Grind.Semiring.pow_succ]; exact cop_mul ih c1
      have c3 : ∀ i : Nat, cop ((pX h - pC h e) ^ k) ((pX h - pC h e') ^ i) := fun i => by
        induction i with
        | zero => rw [Lean.Grind.Semiring.pow_zero]; exact ⟨0, 1, by grind⟩
        | succ i ih => rw [Lean.Grind.Semiring.pow_succ]; exact cop_mul ih (cop_symm (c2 k))
      exact cop_dvs (cop_symm (c3 k)) (by rw [← e1]; exact hd e' (List.mem_cons_of_mem _ he')))
    obtain ⟨d, hd'⟩ := sz_pos h c0'
    have := sz_mul h (XC_pow h e k).1 hd'
    rw [← e1] at this
    show k * (l.length + 1) + 1 ≤ sz h C
    rw [Nat.mul_succ]; omega
/-- what is the same near all e(i) as at infinity, and small there, is 0 -/
theorem inv_zero {F R : Type} [mFld F] [mRng R] {co : R → Nat → F} {A K : Type} [mRng A] [mFld K] {h : isPol co} {a b : F} {j : R → A} {y : A} {u v : A → R} {c : isCrv h a b j y u v} {ι : A → K} (g : isGen c ι) {e : Nat → F} {M : Nat} (M0 : 0 < M) (hd : ∀ i k, i < M → k < M → e i = e k → i = k) {C : R} (sC : sz h C ≤ 6 * M)
    (hi : ∀ i, i < M → ∃ z, z ≠ 0 ∧ Vd g 1 z ∧ ev h (fun z => ι (j (pC h z))) (ι (j (pC h (e i))) + z) C * ι (j (pr h e M)) ^ 6 = ι (j C) * ev h (fun z => ι (j (pC h z))) (ι (j (pC h (e i))) + z) (pr h e M) ^ 6) : C = 0 := by
  refine Classical.byContradiction (fun c0 => ?_)
  have hκ := gn_hom g
  have key : ∀ i, i < M → dvs ((pX h - pC h (e i)) ^ 7) C := fun i hM => by
    obtain ⟨z, z0, vz, E⟩ := hi i hM
    obtain ⟨m, C1, h1, h2⟩ := po_mult h (e i) _ C c0 (Nat.le_refl _)
    have hh := ev_hom h hκ (ι (j (pC h (e i))) + z)
    have eX : ev h (fun z => ι (j (pC h z))) (ι (j (pC h (e i))) + z) (pX h - pC h (e i)) = z := by rw [hm_sub hh, ev_X h hκ, ev_C h hκ]; grind
    have qn := pri_n h hd hM
    obtain ⟨a1, a2⟩ := vl_ev g vz h2
    obtain ⟨b1, b2⟩ := vl_ev g vz qn
    have eC : ev h (fun z => ι (j (pC h z))) (ι (j (pC h (e i))) + z) C = z ^ m * ev h (fun z => ι (j (pC h z))) (ι (j (pC h (e i))) + z) C1 := by rw [h1, hm_mul hh, hm_pow hh, eX]
    have eP : ev h (fun z => ι (j (pC h z))) (ι (j (pC h (e i))) + z) (pr h e M) = ev h (fun z => ι (j (pC h z))) (ι (j (pC h (e i))) + z) (pri h e i M) * z := by rw [pri_pr h e i hM, hm_mul hh, eX]
    rw [eC, eP, rp_mul] at E
    generalize ev h (fun z => ι (j (pC h z))) (ι (j (pC h (e i))) + z) C1 = w1 at *
    generalize ev h (fun z => ι (j (pC h z))) (ι (j (pC h (e i))) + z) (pri h e i M) = w2 at *
    have sp := (pr_sz h e M).1
    have P0 : ι (j (pr h e M)) ≠ 0 := fun w => j_ne c (pr_ne h e M) (g.2.1 _ w)
    have C0 : ι (j C) ≠ 0 := fun w => j_ne c c0 (g.2.1 _ w)
    obtain ⟨d, hdC⟩ := sz_pos h c0
    have v1 := vl_j g sp
    have v2 := vl_j g hdC
    obtain ⟨n1, l1⟩ := vl_pow g z0 m
    obtain ⟨n2, l2⟩ := vl_pow g P0 6
    obtain ⟨n3, l3⟩ := vl_pow g b1 6
    obtain ⟨n4, l4⟩ := vl_pow g z0 6
    have ne : ∀ {p q : K}, p ≠ 0 → q ≠ 0 → p * q ≠ 0 := fun hp hq k => by
      rcases Lean.Grind.Field.of_mul_eq_zero k with k | k
      · exact hp k
      · exact hq k
    have L := congrArg (vl g) E
    rw [vl_mul g (ne n1 a1) n2, vl_mul g n1 a1, vl_mul g C0 (ne n3 n4), vl_mul g n3 n4, l1, l2, l3, l4, a2, b2, v1, v2] at L
    have zp := Vd_vl z0 vz
    have m7 : 7 ≤ m := by
      refine Classical.byContradiction (fun q => ?_)
      have : (m : Int) * vl g z ≤ 6 * vl g z := Int.mul_le_mul_of_nonneg_right (by omega) (by omega)
      omega
    obtain ⟨k, rfl⟩ : ∃ k, m = 7 + k := ⟨m - 7, by omega⟩
    exact ⟨(pX h - pC h (e i)) ^ k * C1, by rw [h1, rp_add]; grind⟩
  have := pw7 h 7 ((List.range M).map e) C c0 (by
    unfold List.Nodup
    rw [List.pairwise_map]
    exact List.Pairwise.imp_of_mem (fun ha hb hne z => hne (hd _ _ (List.mem_range.mp ha) (List.mem_range.mp hb) z)) List.nodup_range) (fun e' he' => by
    obtain ⟨i, hi, rfl⟩ := List.mem_map.mp he'
    exact key i (List.mem_range.mp hi))
  rw [List.length_map, List.length_range] at this
  omega
