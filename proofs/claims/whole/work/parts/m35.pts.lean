/-! the points over a prime field -/
theorem nd_le {α : Type} : ∀ (l m : List α), l.Nodup → (∀ c, c ∈ l → c ∈ m) → l.length ≤ m.length
  | [], m, _, _ => Nat.zero_le _
  | c :: l, m, hl, h => by
    obtain ⟨s, t, e⟩ := List.append_of_mem (h c (List.mem_cons_self ..))
    subst e
    have hl' := List.nodup_cons.mp hl
    have ih := nd_le l (s ++ t) hl'.2 (fun d hd => by
      have ne : d ≠ c := fun z => hl'.1 (by rw [← z]; exact hd)
      have := h d (List.mem_cons_of_mem _ hd)
      rw [List.mem_append, List.mem_cons] at this
      rw [List.mem_append]
      rcases this with w | w | w
      · exact Or.inl w
      · exact absurd w ne
      · exact Or.inr w)
    rw [List.length_append] at ih
    rw [List.length_append]
    show l.length + 1 ≤ s.length + (t.length + 1); omega
abbrev Un (F : Type) [mFld F] := {x : F // x ≠ 0}
def un_op {F : Type} [mFld F] (x y : Un F) : Un F := ⟨x.1 * y.1, fun k => by rcases Lean.Grind.Field.of_mul_eq_zero k with k | k; exact x.2 k; exact y.2 k⟩
def un_e {F : Type} [mFld F] : Un F := ⟨1, fun k => Lean.Grind.Field.zero_ne_one k.symm⟩
def un_iv {F : Type} [mFld F] (x : Un F) : Un F := ⟨x.1⁻¹, fun k => by have := Lean.Grind.Field.mul_inv_cancel x.2; rw [k] at this; exact Lean.Grind.Field.zero_ne_one (α := F) (by rw [← this]; grind)⟩
theorem un_ab (F : Type) [mFld F] : isAb (un_op (F := F)) un_e un_iv :=
  ⟨fun a b c => Subtype.ext (by show a.1 * b.1 * c.1 = a.1 * (b.1 * c.1); grind), fun a b => Subtype.ext (by show a.1 * b.1 = b.1 * a.1; grind), fun a => Subtype.ext (by show a.1 * 1 = a.1; grind), fun a => Subtype.ext (Lean.Grind.Field.mul_inv_cancel a.2)⟩
theorem un_gm {F : Type} [mFld F] (n : Nat) (x : Un F) : (gm un_op un_e n x).1 = x.1 ^ n := by
  induction n with
  | zero => rw [Lean.Grind.Semiring.pow_zero]; rfl
  | succ n ih => rw [Lean.Grind.Semiring.pow_succ, ← ih]; rfl
noncomputable def unl {F : Type} [mFld F] (els : List F) : List (Un F) := (fl (fun c => c ≠ 0) els).map (fun c => @dite (Un F) (c ≠ 0) (Classical.propDecidable _) (fun k => ⟨c, k⟩) (fun _ => un_e))
theorem un_all {F : Type} [mFld F] {p : Nat} {els : List F} (k : isFp F p els) : isAll (unl els) ∧ (unl els).length = p - 1 := by
  have mk : ∀ c : F, ∀ hc : c ≠ 0, (@dite (Un F) (c ≠ 0) (Classical.propDecidable _) (fun k => ⟨c, k⟩) (fun _ => un_e)) = ⟨c, hc⟩ := fun c hc => dif_pos hc
  refine ⟨⟨?_, fun x => ?_⟩, ?_⟩
  · unfold unl List.Nodup
    rw [List.pairwise_map]
    refine List.Pairwise.imp_of_mem (fun {x y} ha hb hne z => hne ?_) (fl_nodup k.1)
    rw [mk _ (fl_mem.mp ha).2, mk _ (fl_mem.mp hb).2] at z
    exact congrArg Subtype.val z
  · exact List.mem_map.mpr ⟨x.1, fl_mem.mpr ⟨k.2.1 _, x.2⟩, mk _ x.2⟩
  · unfold unl
    rw [List.length_map]
    have h1 := fl_len (fun c : F => c = 0) els
    have h2 : (fl (fun c : F => c = 0) els).length = 1 := cN_e (all := els) ⟨k.1, k.2.1⟩ 0
    rw [k.2.2.1, h2] at h1
    show (fl (fun c : F => ¬ c = 0) els).length = p - 1
    omega
/-- a number whose e-th power is 1 is a square -/
theorem sqrt_ex {F : Type} [mFld F] {p e : Nat} {els : List F} (k : isFp F p els) (he : p = 2 * e + 1) (h2 : (2 : F) ≠ 0) {v : F} (v0 : v ≠ 0) (hv : v ^ e = 1) : ∃ r, r * r = v := by
  obtain ⟨a, la⟩ := un_all k
  have ab := un_ab F
  have f := fib ab a 2 (fun _ => True)
  have e1 : cN (unl els) (fun x => (fun _ => True) (gm un_op un_e 2 x)) = 2 * e := by
    have := cN_true a
    rw [la] at this
    rw [show (fun x => (fun _ => True) (gm un_op un_e 2 x)) = (fun _ : Un F => True) from rfl, this]; omega
  have e2 : kap un_op un_e (unl els) 2 ≤ 2 := by
    have : cN (unl els) (fun x => gm un_op un_e 2 x = un_e) ≤ [un_e, (⟨-1, fun z => Lean.Grind.Field.zero_ne_one (α := F) (by grind)⟩ : Un F)].length := nd_le _ _ (fl_nodup a.1) (fun c hc => by
      have h1 := congrArg Subtype.val (fl_mem.mp hc).2
      rw [un_gm, Lean.Grind.Semiring.pow_two] at h1
      have h3 : (c.1 - 1) * (c.1 + 1) = 0 := by
        have : c.1 * c.1 = 1 := h1
        grind
      rcases Lean.Grind.Field.of_mul_eq_zero h3 with z | z
      · exact List.mem_cons.mpr (Or.inl (Subtype.ext (by show c.1 = 1; grind)))
      · exact List.mem_cons_of_mem _ (List.mem_singleton.mpr (Subtype.ext (by show c.1 = -1; grind))))
    exact this
  rw [e1] at f
  have e3 : e ≤ cN (unl els) (fun v => True ∧ ∃ z, gm un_op un_e 2 z = v) := by
    have := Nat.mul_le_mul_right (cN (unl els) (fun v => True ∧ ∃ z, gm un_op un_e 2 z = v)) e2
    omega
  -- those with e-th power 1: at most e
  obtain ⟨R, iR, co, h⟩ := pol_ex F
  have e0 : 0 < e := Nat.pos_of_ne_zero (fun z => by have := fp_pos k; omega)
  have X1 : sz h (pX h ^ e - 1) = e + 1 := by
    rw [show pX h ^ e - 1 = pX h ^ e + - 1 by grind, sz_addl h (by
      rw [sz_neg, ← pC_one h, sz_C h (fun z => Lean.Grind.Field.zero_ne_one z.symm), (X_pow h e).1]; omega), (X_pow h e).1]
  have X0 : pX h ^ e - 1 ≠ 0 := fun z => by rw [z, sz_zero] at X1; omega
  have e4 : cN (unl els) (fun x : Un F => x.1 ^ e = 1) ≤ e := by
    have := po_roots h ((fl (fun x : Un F => x.1 ^ e = 1) (unl els)).map Subtype.val) _ X0 (by
      unfold List.Nodup
      rw [List.pairwise_map]
      exact List.Pairwise.imp (fun hne z => hne (Subtype.ext z)) (fl_nodup a.1)) (fun c hc => by
      obtain ⟨x, hx, rfl⟩ := List.mem_map.mp hc
      rw [hm_sub (ev_hom h hm_id _), hm_pow (ev_hom h hm_id _), ev_X h hm_id, hm_one (ev_hom h hm_id _), (fl_mem.mp hx).2]; grind)
    rw [List.length_map, X1] at this
    unfold cN; omega
  have q := cN_eq a (P := fun v : Un F => True ∧ ∃ z, gm un_op un_e 2 z = v) (Q := fun x : Un F => x.1 ^ e = 1) (fun x hx => by
    obtain ⟨-, z, rfl⟩ := hx
    rw [un_gm, Lean.Grind.Semiring.pow_two, rp_mul, ← rp_add]
    have : z.1 ^ p = z.1 := k.2.2.2 z.1
    rw [he, show 2 * e + 1 = e + e + 1 by omega, Lean.Grind.Semiring.pow_succ] at this
    have i := Lean.Grind.Field.mul_inv_cancel z.2
    grind) (by omega) ⟨v, v0⟩ hv
  obtain ⟨-, z, hz⟩ := q
  refine ⟨z.1, ?_⟩
  have := congrArg Subtype.val hz
  rw [un_gm, Lean.Grind.Semiring.pow_two] at this
  exact this
theorem ng_ne {F : Type} [mRng F] {x : F} (h : x ≠ 0) : -x ≠ 0 := fun k => h (by grind)
noncomputable def toE {F : Type} [mFld F] (a b : F) (P : F × F) : EP a b := @dite (EP a b) (onE a b (some P)) (Classical.propDecidable _) (fun k => ⟨some P, k⟩) (fun _ => ez)
theorem toE_eq {F : Type} [mFld F] {a b : F} {P : F × F} (k : onE a b (some P)) : toE a b P = ⟨some P, k⟩ := dif_pos k
noncomputable def srt {F : Type} [mFld F] (v : F) : F := @Classical.epsilon F ⟨0⟩ (fun r => r * r = v)
/-- all the points -/
theorem all_ex {F : Type} [mFld F] {p e : Nat} {els : List F} (k : isFp F p els) (he : p = 2 * e + 1) (e0 : 0 < e) (h2 : (2 : F) ≠ 0) (a b : F) : ∃ all : List (EP a b), isAll all ∧ all.length = npts a b e els := by
  let pz : F → EP a b := fun c => toE a b (c, 0)
  let ps : F → EP a b := fun c => toE a b (c, srt (cb a b c))
  let pt : F → EP a b := fun c => toE a b (c, - srt (cb a b c))
  have hz : ∀ c, c ∈ zsl a b els → ∃ q, pz c = ⟨some (c, 0), q⟩ := fun c hc => by
    have m : cb a b c = 0 := (fl_mem.mp hc).2
    have q : onE a b (some (c, (0 : F))) := by show (0 : F) * 0 = cb a b c; rw [m]; grind
    exact ⟨q, toE_eq q⟩
  have hr : ∀ c, c ∈ ssl a b e els → srt (cb a b c) * srt (cb a b c) = cb a b c ∧ srt (cb a b c) ≠ 0 := fun c hc => by
    have m := (fl_mem.mp hc).2
    have r : srt (cb a b c) * srt (cb a b c) = cb a b c := Classical.epsilon_spec (p := fun r => r * r = cb a b c) (sqrt_ex k he h2 m.1 m.2)
    exact ⟨r, fun z => m.1 (by rw [← r, z]; grind)⟩
  have hs : ∀ c, c ∈ ssl a b e els → ∃ q, ps c = ⟨some (c, srt (cb a b c)), q⟩ := fun c hc => by
    have q : onE a b (some (c, srt (cb a b c))) := (hr c hc).1
    exact ⟨q, toE_eq q⟩
  have ht : ∀ c, c ∈ ssl a b e els → ∃ q, pt c = ⟨some (c, - srt (cb a b c)), q⟩ := fun c hc => by
    have q : onE a b (some (c, - srt (cb a b c))) := by show - srt (cb a b c) * - srt (cb a b c) = cb a b c; rw [← (hr c hc).1]; grind
    exact ⟨q, toE_eq q⟩
  have inj : ∀ {f : F → EP a b} {l : List F} {g : F → F}, l.Nodup → (∀ c, c ∈ l → ∃ q, f c = ⟨some (c, g c), q⟩) → (l.map f).Nodup := fun {f l g} hl hf => by
    unfold List.Nodup
    rw [List.pairwise_map]
    refine List.Pairwise.imp_of_mem (fun {x y} ha hb hne z => hne ?_) hl
    obtain ⟨q1, w1⟩ := hf x ha
    obtain ⟨q2, w2⟩ := hf y hb
    rw [w1, w2] at z
    exact congrArg Prod.fst (Option.some.inj (congrArg Subtype.val z))
  refine ⟨ez :: (zsl a b els).map pz ++ ((ssl a b e els).map ps ++ (ssl a b e els).map pt), ⟨?_, fun P => ?_⟩, ?_⟩
  · refine List.nodup_append.mpr ⟨List.nodup_cons.mpr ⟨fun m => ?_, inj (fl_nodup k.1) hz⟩, List.nodup_append.mpr ⟨inj (fl_nodup k.1) hs, inj (fl_nodup k.1) ht, fun x hx y hy z => ?_⟩, fun x hx y hy z => ?_⟩
    · obtain ⟨c, hc, e1⟩ := List.mem_map.mp m
      obtain ⟨q, w⟩ := hz c hc
      rw [w] at e1
      exact absurd (congrArg Subtype.val e1) (by show ¬ some (c, (0 : F)) = none; simp)
    · obtain ⟨c, hc, rfl⟩ := List.mem_map.mp hx
      obtain ⟨d, hd, rfl⟩ := List.mem_map.mp hy
      obtain ⟨q1, w1⟩ := hs c hc
      obtain ⟨q2, w2⟩ := ht d hd
      rw [w1, w2] at z
      have z1 := Option.some.inj (congrArg Subtype.val z)
      have z2 : c = d := congrArg Prod.fst z1
      have z3 : srt (cb a b c) = - srt (cb a b d) := congrArg Prod.snd z1
      rw [← z2] at z3
      have : 2 * srt (cb a b c) = 0 := by grind
      rcases Lean.Grind.Field.of_mul_eq_zero this with w | w
      · exact h2 w
      · exact (hr c hc).2 w
    · have hy' : ∃ d r, d ∈ ssl a b e els ∧ r ≠ 0 ∧ y.1 = some (d, r) := by
        rcases List.mem_append.mp hy with hy | hy
        · obtain ⟨d, hd, rfl⟩ := List.mem_map.mp hy
          obtain ⟨q2, w2⟩ := hs d hd
          exact ⟨d, _, hd, (hr d hd).2, by rw [w2]⟩
        · obtain ⟨d, hd, rfl⟩ := List.mem_map.mp hy
          obtain ⟨q2, w2⟩ := ht d hd
          exact ⟨d, - srt (cb a b d), hd, ng_ne (hr d hd).2, by rw [w2]⟩
      obtain ⟨d, r, hd, r0, ey⟩ := hy'
      rcases List.mem_cons.mp hx with w | w
      · rw [← z, w] at ey
        exact absurd (show (none : Pt F) = some (d, r) from ey) (by simp)
      · obtain ⟨c, hc, rfl⟩ := List.mem_map.mp w
        obtain ⟨q, w2⟩ := hz c hc
        rw [← z, w2] at ey
        exact r0 (congrArg Prod.snd (Option.some.inj ey)).symm
  · obtain ⟨P, hP⟩ := P
    cases P with
    | none => exact List.mem_append.mpr (Or.inl (List.mem_cons_self ..))
    | some P =>
      have hP' : P.2 * P.2 = cb a b P.1 := hP
      by_cases z : P.2 = 0
      · have c0 : P.1 ∈ zsl a b els := fl_mem.mpr ⟨k.2.1 _, by rw [← hP', z]; grind⟩
        refine List.mem_append.mpr (Or.inl (List.mem_cons_of_mem _ (List.mem_map.mpr ⟨P.1, c0, ?_⟩)))
        obtain ⟨q, w⟩ := hz P.1 c0
        rw [w]
        refine Subtype.ext ?_
        show some (P.1, (0 : F)) = some P
        rw [← z]
      · have n0 : cb a b P.1 ≠ 0 := fun w => by
          rw [w] at hP'
          rcases Lean.Grind.Field.of_mul_eq_zero hP' with w | w <;> exact z w
        have pe : cb a b P.1 ^ e = 1 := by
          rw [← hP', rp_mul, ← rp_add]
          have : P.2 ^ p = P.2 := k.2.2.2 _
          rw [he, show 2 * e + 1 = e + e + 1 by omega, Lean.Grind.Semiring.pow_succ] at this
          have i := Lean.Grind.Field.mul_inv_cancel z
          grind
        have c0 : P.1 ∈ ssl a b e els := fl_mem.mpr ⟨k.2.1 _, n0, pe⟩
        have r := (hr P.1 c0).1
        have : (P.2 - srt (cb a b P.1)) * (P.2 + srt (cb a b P.1)) = 0 := by rw [← hP'] at r ⊢; grind
        rcases Lean.Grind.Field.of_mul_eq_zero this with w | w
        · refine List.mem_append.mpr (Or.inr (List.mem_append.mpr (Or.inl (List.mem_map.mpr ⟨P.1, c0, ?_⟩))))
          obtain ⟨q, w2⟩ := hs P.1 c0
          rw [w2]
          refine Subtype.ext ?_
          show some (P.1, srt (cb a b P.1)) = some P
          rw [show srt (cb a b P.1) = P.2 by grind]
        · refine List.mem_append.mpr (Or.inr (List.mem_append.mpr (Or.inr (List.mem_map.mpr ⟨P.1, c0, ?_⟩))))
          obtain ⟨q, w2⟩ := ht P.1 c0
          rw [w2]
          refine Subtype.ext ?_
          show some (P.1, - srt (cb a b P.1)) = some P
          rw [show - srt (cb a b P.1) = P.2 by grind]
  · rw [List.length_append, List.length_append, List.length_map, List.length_map, List.length_cons, List.length_map]
    unfold npts; omega
/-- of a prime q, fewer than q^3 are made nothing by q -/
theorem few_ex {F : Type} [mFld F] {a b : F} (h2 : (2 : F) ≠ 0) (hns : 4 * a * a * a + 27 * b * b ≠ 0) {els : List F} (hn : els.Nodup) (hel : ∀ x : F, x ∈ els) {all : List (EP a b)} (al : isAll all) {q : Nat} (hq : 2 ≤ q) : kap (eo h2 hns) ez all q < q * q * q := by
  have ab := ep_ab h2 hns
  let T : F → Prop := fun c => ∃ y, ∃ hy : onE a b (some (c, y)), gm (eo h2 hns) ez q ⟨some (c, y), hy⟩ = ez
  have l1 := tors_x h2 hns (n := q) (by omega) (fl T els) (fl_nodup hn) (fun x hx => by
    obtain ⟨y, hy, k⟩ := (fl_mem.mp hx).2
    refine ⟨y, hy, ?_⟩
    have := wn_gm h2 hns ez ⟨some (x, y), hy⟩ q
    rw [ab_0l ab, k] at this
    exact this)
  let r : F → F := fun c => @Classical.epsilon F ⟨0⟩ (fun y => onE a b (some (c, y)))
  have l2 : kap (eo h2 hns) ez all q ≤ (ez :: ((fl T els).map (fun c => toE a b (c, r c)) ++ (fl T els).map (fun c => toE a b (c, - r c)))).length := nd_le _ _ (fl_nodup al.1) (fun P hP => by
    have kP := (fl_mem.mp hP).2
    obtain ⟨P, hon⟩ := P
    cases P with
    | none => exact List.mem_cons_self ..
    | some P =>
      have cT : P.1 ∈ fl T els := fl_mem.mpr ⟨hel _, P.2, hon, kP⟩
      have hr : onE a b (some (P.1, r P.1)) := Classical.epsilon_spec (p := fun y => onE a b (some (P.1, y))) ⟨P.2, hon⟩
      rcases x_same hon hr rfl with w | w
      · refine List.mem_cons_of_mem _ (List.mem_append.mpr (Or.inl (List.mem_map.mpr ⟨P.1, cT, ?_⟩)))
        rw [toE_eq hr]
        exact Subtype.ext w.symm
      · refine List.mem_cons_of_mem _ (List.mem_append.mpr (Or.inr (List.mem_map.mpr ⟨P.1, cT, ?_⟩)))
        have hr' : onE a b (some (P.1, - r P.1)) := on_ng hr
        rw [toE_eq hr']
        exact Subtype.ext w.symm)
  rw [List.length_cons, List.length_append, List.length_map, List.length_map] at l2
  have q3 : 2 * (q * q) ≤ q * (q * q) := Nat.mul_le_mul_right _ hq
  rw [Nat.mul_assoc]
  omega
