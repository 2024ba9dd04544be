/-- a generic point of a curve -/
def isGen {F R : Type} [mRng F] [mRng R] {co : R → Nat → F} {A K : Type} [mRng A] [mFld K] {h : isPol co} {a b : F} {j : R → A} {y : A} {u v : A → R} (_ : isCrv h a b j y u v) (ι : A → K) : Prop := isHom ι ∧ (∀ z, ι z = 0 → z = 0) ∧ ∀ z, ∃ s t, t ≠ 0 ∧ z * ι t = ι s
theorem gnp_ex {F R : Type} [mFld F] [mRng R] {co : R → Nat → F} (h : isPol co) (a b : F) : ∃ (A : Type) (_ : mRng A) (j : R → A) (y : A) (u v : A → R) (c : isCrv h a b j y u v) (K : Type) (_ : mFld K) (ι : A → K), isGen c ι := by
  obtain ⟨A, iA, j, y, u, v, c⟩ := crv_ex h a b
  obtain ⟨K, iK, ι, g⟩ := frac_ex (A := A) ⟨fun _ _ e => cv_dom c e, one_ne c⟩
  exact ⟨A, iA, j, y, u, v, c, K, iK, ι, g⟩
theorem gn_hom {F R : Type} [mFld F] [mRng R] {co : R → Nat → F} {A K : Type} [mRng A] [mFld K] {h : isPol co} {a b : F} {j : R → A} {y : A} {u v : A → R} {c : isCrv h a b j y u v} {ι : A → K} (g : isGen c ι) : isHom (fun z => ι (j (pC h z))) := hm_comp (kC_hom c) g.1
theorem gn_ev {F R : Type} [mFld F] [mRng R] {co : R → Nat → F} {A K : Type} [mRng A] [mFld K] {h : isPol co} {a b : F} {j : R → A} {y : A} {u v : A → R} {c : isCrv h a b j y u v} {ι : A → K} (g : isGen c ι) (w : R) : ev h (fun z => ι (j (pC h z))) (ι (j (pX h))) w = ι (j w) := by
  have e1 := ev_comp h (pC_hom h) c.1 (pX h) w
  rw [ev_self] at e1
  have e2 := ev_comp h (kC_hom c) g.1 (j (pX h)) w
  rw [e1, e2]
theorem gn_tr {F R : Type} [mFld F] [mRng R] {co : R → Nat → F} {A K : Type} [mRng A] [mFld K] {h : isPol co} {a b : F} {j : R → A} {y : A} {u v : A → R} {c : isCrv h a b j y u v} {ι : A → K} (g : isGen c ι) (w : R) (e : ev h (fun z => ι (j (pC h z))) (ι (j (pX h))) w = 0) : w = 0 := by
  rw [gn_ev g] at e
  have := g.2.1 _ e
  exact Classical.byContradiction (fun ne => j_ne c ne this)
theorem gn_on {F R : Type} [mFld F] [mRng R] {co : R → Nat → F} {A K : Type} [mRng A] [mFld K] {h : isPol co} {a b : F} {j : R → A} {y : A} {u v : A → R} {c : isCrv h a b j y u v} {ι : A → K} (g : isGen c ι) : onE (ι (j (pC h a))) (ι (j (pC h b))) (some (ι (j (pX h)), ι y)) := by
  show ι y * ι y = ι (j (pX h)) * ι (j (pX h)) * ι (j (pX h)) + ι (j (pC h a)) * ι (j (pX h)) + ι (j (pC h b))
  have := congrArg ι (cv_eq c)
  rwa [hm_mul g.1, hm_add g.1, hm_add g.1, hm_mul g.1, hm_mul g.1, hm_mul g.1] at this
theorem gm_map {G H : Type} {op : G → G → G} {e : G} {op' : H → H → H} {e' : H} {f : G → H} (h0 : f e = e') (h1 : ∀ x y, f (op x y) = op' (f x) (f y)) (n : Nat) (x : G) : f (gm op e n x) = gm op' e' n (f x) := by
  induction n with
  | zero => exact h0
  | succ n ih => show f (op (gm op e n x) x) = op' (gm op' e' n (f x)) (f x); rw [h1, ih]
/-- the x of P + S, of a generic P -/
noncomputable def xof {K : Type} [mFld K] : Pt K → K
  | none => 0
  | some Q => Q.1
/-- where the group of what q makes nothing is as large as it can be, q divides p - 1 -/
theorem full_tors {F : Type} [mFld F] {p e : Nat} {els : List F} (k : isFp F p els) (he : p = 2 * e + 1) (e2 : 2 ≤ e) {a b : F} (h2 : (2 : F) ≠ 0) (hns : 4 * a * a * a + 27 * b * b ≠ 0) {q : Nat} (hq : 0 < q)
    (l : List (EP a b)) (ln : l.Nodup) (ll : l.length = q * q) (lq : ∀ S, S ∈ l → gm (eo h2 hns) ez q S = ez) : q ∣ p - 1 := by
  obtain ⟨R, iR, co, h⟩ := pol_ex F
  obtain ⟨A, iA, j, y, u, v, c, K, iK, ι, g⟩ := gnp_ex h a b
  have hκ := gn_hom g
  have tr := gn_tr g
  have evx := gn_ev g
  have on0 := gn_on g
  generalize hx0 : ι (j (pX h)) = x at *
  generalize hy0 : ι y = yy at *
  generalize hk0 : (fun z => ι (j (pC h z))) = κ at *
  have kk : ∀ z, ι (j (pC h z)) = κ z := fun z => by rw [← hk0]
  rw [kk, kk] at on0
  obtain ⟨n2, nn⟩ := hom_ns hκ h2 hns
  have ab := ep_ab n2 nn
  have ab0 := ep_ab h2 hns
  have hx := ev_hom h hκ x
  let P : EP (κ a) (κ b) := ⟨some (x, yy), on0⟩
  let pk : EP a b → EP (κ a) (κ b) := fun S => ⟨pm κ S.1, pm_on hκ S.2⟩
  have pk_op : ∀ S T, pk (eo h2 hns S T) = eo n2 nn (pk S) (pk T) := fun S T => Subtype.ext (pm_ad hκ a S.1 T.1)
  have pk_ez : pk ez = ez := rfl
  have pk_gm : ∀ n S, pk (gm (eo h2 hns) ez n S) = gm (eo n2 nn) ez n (pk S) := fun n S => gm_map pk_ez pk_op n S
  have pk_en : ∀ S, pk (en S) = en (pk S) := fun S => Subtype.ext (pm_ng hκ S.1)
  -- the p-th power
  have hfr := frob_hom h k hκ
  have fκ : ∀ z, κ z ^ p = κ z := fun z => by rw [← hm_pow hκ, k.2.2.2]
  let fπ : EP (κ a) (κ b) → EP (κ a) (κ b) := fun Q => ⟨pm (fun z => z ^ p) Q.1, by
    have := pm_on hfr Q.2
    simp only [fκ] at this
    exact this⟩
  have fπ_op : ∀ Q T, fπ (eo n2 nn Q T) = eo n2 nn (fπ Q) (fπ T) := fun Q T => Subtype.ext (by
    have := pm_ad hfr (κ a) Q.1 T.1
    simp only [fκ] at this
    exact this)
  have fπ_pk : ∀ S, fπ (pk S) = pk S := fun S => Subtype.ext (show pm (fun z : K => z ^ p) (pm κ S.1) = pm κ S.1 from pm_fix (fun Q hQ => by
    have hQ' : pm κ S.1 = some Q := hQ
    cases hS : S.1 with
    | none => rw [hS] at hQ'; exact absurd (show (none : Pt K) = some Q from hQ') (by simp)
    | some S' =>
      rw [hS] at hQ'
      have e1 := Option.some.inj (show some (κ S'.1, κ S'.2) = some Q from hQ')
      rw [← e1]; exact ⟨fκ _, fκ _⟩))
  -- P + S is a point, with its own x
  have QS : ∀ S, ∃ Q, (eo n2 nn P (pk S)).1 = some Q := fun S => by
    cases hQ : (eo n2 nn P (pk S)).1 with
    | some Q => exact ⟨Q, rfl⟩
    | none =>
      exfalso
      have e1 : eo n2 nn P (pk S) = ez := Subtype.ext hQ
      have e3 : pk S = en P := ab_ivu ab e1
      have e4 : en (pk S) = P := by rw [e3]; exact ab_iviv ab P
      rw [← pk_en] at e4
      have e5 : pm κ (en S).1 = some (x, yy) := congrArg Subtype.val e4
      cases hS : (en S).1 with
      | none => rw [hS] at e5; exact absurd (show (none : Pt K) = some (x, yy) from e5) (by simp)
      | some S' =>
        rw [hS] at e5
        have e6 := congrArg Prod.fst (Option.some.inj (show some (κ S'.1, κ S'.2) = some (x, yy) from e5))
        have e7 : ev h κ x (pX h - pC h S'.1) = 0 := by rw [hm_sub hx, ev_X h hκ, ev_C h hκ, ← show κ S'.1 = x from e6]; grind
        exact XC_ne h S'.1 (tr _ e7)
  -- values of the chain of multiples
  have mv : ∀ (n : Nat) (Q : EP (κ a) (κ b)) (Q0 : K × K), Q.1 = some Q0 → evp h κ Q0.1 (mch h a b n) (gm (eo n2 nn) ez n Q).1 := fun n Q Q0 hQ => by
    have hon : onE (κ a) (κ b) (some Q0) := by rw [← hQ]; exact Q.2
    have r := mch_ev h hκ h2 hns hon n
    have r2 := wn_gm n2 nn ez Q n
    rw [ab_0l ab] at r2
    rw [← hQ, show wn (κ a) none Q.1 n = (gm (eo n2 nn) ez n Q).1 from r2] at r
    exact r
  have mP : ∀ n : Nat, evp h κ x (mch h a b n) (gm (eo n2 nn) ez n P).1 := fun n => mv n P (x, yy) rfl
  have nconst : ∀ (n : Nat) (U : EP a b), 0 < n → gm (eo n2 nn) ez n P ≠ pk U := fun n U hn e1 => by
    obtain ⟨k1, -, k2, k3⟩ := mP n
    rw [e1, show (pk U).1 = pm κ U.1 from rfl, (xA_pm hκ U.1).1] at k2
    rw [e1, show (pk U).1 = pm κ U.1 from rfl, (xA_pm hκ U.1).2] at k3
    refine non_const h hκ tr (mch_good h h2 hns n).2 (mch_2 h h2 hns hn) (xAB U.1) ?_
    rw [k2, k3]; grind
  -- different S, different x
  have xne : ∀ S T : EP a b, S ≠ T → xof (eo n2 nn P (pk S)).1 ≠ xof (eo n2 nn P (pk T)).1 := fun S T ne e1 => by
    obtain ⟨Q, hQ⟩ := QS S; obtain ⟨W, hW⟩ := QS T
    rw [hQ, hW] at e1
    have o1 : onE (κ a) (κ b) (some Q) := by rw [← hQ]; exact (eo n2 nn P (pk S)).2
    have o2 : onE (κ a) (κ b) (some W) := by rw [← hW]; exact (eo n2 nn P (pk T)).2
    rcases x_same o1 o2 e1 with e3 | e3
    · have e4 : eo n2 nn P (pk S) = eo n2 nn P (pk T) := Subtype.ext (by rw [hQ, hW, e3])
      exact ne (Subtype.ext (pm_inj hκ (congrArg Subtype.val (ab_canc ab e4))))
    · have e4 : eo n2 nn P (pk S) = en (eo n2 nn P (pk T)) := Subtype.ext (by show _ = ng _; rw [hQ, hW, e3])
      refine nconst 2 (en (eo h2 hns S T)) (by omega) ?_
      rw [pk_en, pk_op, ab_ivo ab]
      rw [ab_ivo ab] at e4
      show eo n2 nn (eo n2 nn ez P) P = _
      rw [ab_0l ab]
      refine ab_canc ab (x := pk S) ?_
      rw [← ab.1, ab.2.1 (pk S) P, e4, ← ab.1 (pk S), ab.2.2.2, ab_0l ab, ab.1, ab.2.1 (en (pk T)) P, ← ab.1, ab.2.1 (en P) P, ab.2.2.2, ab_0l ab]
  -- moved by S in l, q P is the same
  have qS : ∀ S, S ∈ l → gm (eo n2 nn) ez q (eo n2 nn P (pk S)) = gm (eo n2 nn) ez q P := fun S hS => by
    rw [gm_op ab, ← pk_gm, lq S hS, pk_ez, ab.2.2.1]
  -- the x of P + S is no p-th power of its own
  have npw : ∀ S, S ∈ l → xof (eo n2 nn P (pk S)).1 ^ p ≠ xof (eo n2 nn P (pk S)).1 := fun S hS e1 => by
    obtain ⟨Q, hQ⟩ := QS S
    rw [hQ] at e1
    obtain ⟨d, hd⟩ := fp_root k hκ (show Q.1 ^ p = Q.1 from e1)
    obtain ⟨k1, k10, k2, k3⟩ := mv q _ Q hQ
    obtain ⟨m1, m10, m2, m3⟩ := mP q
    rw [qS S hS, hd, ← ev_comp h hm_id hκ] at k2 k3
    have hab : ev h (fun x => x) d (mch h a b q).1 ≠ 0 ∨ ev h (fun x => x) d (mch h a b q).2 ≠ 0 := by
      rcases xAB (gm (eo n2 nn) ez q P).1 with w | w
      · left; intro z; rw [z, hm_zero hκ] at k2
        rcases Lean.Grind.Field.of_mul_eq_zero k2.symm with z | z
        · exact k10 z
        · exact w z
      · right; intro z; rw [z, hm_zero hκ] at k3
        rcases Lean.Grind.Field.of_mul_eq_zero k3.symm with z | z
        · exact k10 z
        · exact w z
    refine non_const h hκ tr (mch_good h h2 hns q).2 (mch_2 h h2 hns hq) hab ?_
    exact (same_x m2 m3 k2 k3).trans (by grind)
  -- the chain of the p-th power
  obtain ⟨A', B', cp, gd, sA, d1, d2⟩ := hs_data h k he e2 h2 hns
  have Xp := (X_pow h p).1
  have hv : ∀ (n : Nat) (Q : EP (κ a) (κ b)) (Q0 : K × K), Q.1 = some Q0 → Q0.1 ^ p ≠ Q0.1 → evp h κ Q0.1 (chn h a b (A', B') (pX h ^ p, 1) n) (eo n2 nn (eo n2 nn (fπ Q) (en Q)) (gm (eo n2 nn) ez n Q)).1 := fun n Q Q0 hQ hne => by
    have hon : onE (κ a) (κ b) (some Q0) := by rw [← hQ]; exact Q.2
    have hf : (fπ Q).1 = some (Q0.1 ^ p, Q0.2 ^ p) := by show pm (fun z => z ^ p) Q.1 = _; rw [hQ]; rfl
    have hW : (eo n2 nn (fπ Q) (en Q)).1 = ad (κ a) (some (Q0.1 ^ p, Q0.2 ^ p)) (ng (some Q0)) := by show ad (κ a) (fπ Q).1 (ng Q.1) = _; rw [hf, hQ]
    have hxQ := ev_hom h hκ Q0.1
    have r := chn_ev h hκ h2 hns (W := (eo n2 nn (fπ Q) (en Q)).1) (eo n2 nn (fπ Q) (en Q)).2 hon gd (by rw [hW]; exact hs_ev h k he hκ d1 d2 hon hne) (by
      rw [← hQ, show ad (κ a) (eo n2 nn (fπ Q) (en Q)).1 Q.1 = (eo n2 nn (eo n2 nn (fπ Q) (en Q)) Q).1 from rfl, ab_sub' ab, hf]
      refine ⟨1, fun z => Lean.Grind.Field.zero_ne_one z.symm, ?_, ?_⟩
      · show ev h κ Q0.1 (pX h ^ p) = 1 * Q0.1 ^ p
        rw [hm_pow hxQ, ev_X h hκ]; grind
      · show ev h κ Q0.1 1 = 1 * 1
        rw [hm_one hxQ]; grind) n
    rw [← hQ, wn_gm n2 nn] at r
    exact r
  have nx : x ^ p ≠ x := fun e1 => by
    obtain ⟨d, hd⟩ := fp_root k hκ e1
    have e7 : ev h κ x (pX h - pC h d) = 0 := by rw [hm_sub hx, ev_X h hκ, ev_C h hκ, hd]; grind
    exact XC_ne h d (tr _ e7)
  -- the sizes
  have main : ∀ n : Nat, (∀ S, S ∈ l → gm (eo h2 hns) ez n S = ez) → ∃ m, sz h (chn h a b (A', B') (pX h ^ p, 1) n).1 = q * q * m + 1 := fun n hn => by
    have gg := (chn_good h h2 hns gd n).1
    generalize hch : chn h a b (A', B') (pX h ^ p, 1) n = w at *
    by_cases w0 : w.2 = 0
    · obtain ⟨s, t, e1⟩ := gg.1
      rw [w0] at e1
      have := (dvs_C h (g := w.1) (k := (1 : F)) (fun z => Lean.Grind.Field.zero_ne_one z.symm) ⟨s, by rw [pC_one, ← e1]; grind⟩)
      obtain ⟨d, hd⟩ := sz_pos h this.1
      exact ⟨0, by omega⟩
    · have xB0 : ev h κ x (mch h a b q).2 ≠ 0 := fun z => mch_2 h h2 hns hq (tr _ z)
      have wB0 : ev h κ x w.2 ≠ 0 := fun z => w0 (tr _ z)
      obtain ⟨m, hm⟩ : ∃ m, q * q = m + 1 := ⟨q * q - 1, by have := Nat.mul_pos hq hq; omega⟩
      have sq := mch_sz h h2 hns q
      have lq2 := (mch_good h h2 hns q).2
      rw [hm] at sq
      let s := ev h κ x (mch h a b q).1 * (ev h κ x (mch h a b q).2)⁻¹
      have hs : ev h κ x (mch h a b q).1 = s * ev h κ x (mch h a b q).2 := by
        have := Lean.Grind.Field.mul_inv_cancel xB0
        show _ = ev h κ x (mch h a b q).1 * (ev h κ x (mch h a b q).2)⁻¹ * ev h κ x (mch h a b q).2
        grind
      obtain ⟨r1, hr1⟩ := red_ex h hκ (B := (mch h a b q).2) sq (by omega) w.1
      obtain ⟨r2, hr2⟩ := red_ex h hκ (B := (mch h a b q).2) sq (by omega) w.2
      have z := vand (m := m + 1) (c := fun i => ev h κ s (r1 i) * ev h κ x w.2 - ev h κ x w.1 * ev h κ s (r2 i)) (xs := l.map (fun S => xof (eo n2 nn P (pk S)).1)) (by
          unfold List.Nodup
          rw [List.pairwise_map]
          exact List.Pairwise.imp (fun hne => xne _ _ hne) ln) (by rw [List.length_map, ll, hm]) (fun ξ hξ => by
        obtain ⟨S, hS, e1⟩ := List.mem_map.mp hξ
        obtain ⟨Q, hQ⟩ := QS S
        have e3 : ξ = Q.1 := by rw [← e1, hQ]; rfl
        have e4 : Q.1 ^ p ≠ Q.1 := by have := npw S hS; rw [hQ] at this; exact this
        obtain ⟨k1, -, k2, k3⟩ := mv q _ Q hQ
        obtain ⟨m1, -, m2, m3⟩ := mP q
        rw [qS S hS] at k2 k3
        have f1 : ev h κ ξ (mch h a b q).1 = s * ev h κ ξ (mch h a b q).2 := by
          have := same_x k2 k3 m2 m3
          rw [← e3, hs] at this
          have c9 : ev h κ x (mch h a b q).2 * (ev h κ ξ (mch h a b q).1 - s * ev h κ ξ (mch h a b q).2) = 0 := by grind
          rcases Lean.Grind.Field.of_mul_eq_zero c9 with z | z
          · exact absurd z xB0
          · grind
        have f2 := hv n _ Q hQ e4
        have f3 := hv n P (x, yy) rfl nx
        have f4 : eo n2 nn (eo n2 nn (fπ (eo n2 nn P (pk S))) (en (eo n2 nn P (pk S)))) (gm (eo n2 nn) ez n (eo n2 nn P (pk S))) = eo n2 nn (eo n2 nn (fπ P) (en P)) (gm (eo n2 nn) ez n P) := by
          refine gw_move ab ?_ (by rw [← pk_gm, hn S hS, pk_ez])
          rw [fπ_op, fπ_pk, ab_ivo ab, ab_4 ab, ab.2.2.2, ab.2.2.1]
        rw [f4, hch] at f2
        rw [hch] at f3
        obtain ⟨t1, -, t2, t3⟩ := f2
        obtain ⟨s1, -, s2, s3⟩ := f3
        have f5 := same_x t2 t3 s2 s3
        have f6 := hr1 ξ s f1
        have f7 := hr2 ξ s f1
        rw [← e3] at f5
        have f8 : ev h κ ξ w.1 * ev h κ x w.2 = ev h κ x w.1 * ev h κ ξ w.2 := f5
        rw [f6, f7] at f8
        have f9 : rs (m + 1) (fun i => (ev h κ s (r1 i) * ev h κ x w.2 - ev h κ x w.1 * ev h κ s (r2 i)) * ξ ^ i) + ev h κ x w.1 * rs (m + 1) (fun i => ev h κ s (r2 i) * ξ ^ i) = rs (m + 1) (fun i => ev h κ s (r1 i) * ξ ^ i) * ev h κ x w.2 := by
          rw [← rs_mul, ← rs_mulr, ← rs_add]
          exact rs_ext (fun i _ => by generalize ξ ^ i = z; grind)
        rw [f8] at f9
        generalize ev h κ x w.1 * rs (m + 1) (fun i => ev h κ s (r2 i) * ξ ^ i) = z1 at *
        grind)
      have ex : ∃ i, i < m + 1 ∧ ev h κ s (r2 i) ≠ 0 := Classical.byContradiction (fun ne => wB0 (by
        rw [hr2 x s hs]
        refine rs_z (fun i hi => ?_)
        have : ev h κ s (r2 i) = 0 := Classical.byContradiction (fun w => ne ⟨i, hi, w⟩)
        rw [this]; grind))
      obtain ⟨i, hi, hi0⟩ := ex
      have zi := z i hi
      obtain ⟨n', hn'⟩ := comp_deg h hκ tr sq (by omega) (by omega) (mch_2 h h2 hns hq) (mch_good h h2 hns q).1 hs gg.1 gg.2.2.1 hi0 (show ev h κ x w.1 * ev h κ s (r2 i) = ev h κ x w.2 * ev h κ s (r1 i) by grind)
      exact ⟨n', by rw [hm]; exact hn'⟩
  -- the numbers
  obtain ⟨m0, e0⟩ := main 0 (fun S _ => rfl)
  obtain ⟨m1, e1⟩ := main q lq
  have sqs := seq_sq (s := fun n => sz h (chn h a b (A', B') (pX h ^ p, 1) n).1) (fun n => chn_sz h h2 hns gd n) q
  have u0 : sz h (chn h a b (A', B') (pX h ^ p, 1) 0).1 = npts a b e els + 1 := sA
  have u1 : sz h (chn h a b (A', B') (pX h ^ p, 1) 1).1 = p + 1 := Xp
  rw [u0] at e0
  simp only [u0, u1, e1] at sqs
  have p1 : 1 ≤ p := by omega
  have e5 : (q : Int) * ((q : Int) * ((m1 : Int) - 1 - m0 + q * m0) - ((p : Int) - 1)) = 0 := by
    have a1 : ((npts a b e els : Nat) : Int) = q * q * m0 := by
      have : npts a b e els = q * q * m0 := by omega
      rw [this]; grind
    have a2 : ((q * q * m1 + 1 : Nat) : Int) = q * q * m1 + 1 := by grind
    rw [a2] at sqs
    have a3 : ((npts a b e els + 1 : Nat) : Int) = q * q * m0 + 1 := by rw [← a1]; grind
    have a4 : ((p + 1 : Nat) : Int) = p + 1 := by grind
    rw [a3, a4] at sqs
    grind
  rcases Int.mul_eq_zero.mp e5 with z | z
  · omega
  · have : (q : Int) ∣ ((p - 1 : Nat) : Int) := ⟨(m1 : Int) - 1 - m0 + q * m0, by omega⟩
    exact Int.natCast_dvd_natCast.mp this
