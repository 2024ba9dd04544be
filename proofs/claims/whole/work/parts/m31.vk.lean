/-! subgroups of what a prime makes nothing -/
def isSub {G : Type} (op : G → G → G) (e : G) (iv : G → G) (H : G → Prop) : Prop := H e ∧ (∀ x y, H x → H y → H (op x y)) ∧ ∀ x, H x → H (iv x)
theorem sub_gm {G : Type} {op : G → G → G} {e : G} {iv : G → G} {H : G → Prop} (s : isSub op e iv H) (n : Nat) {x : G} (hx : H x) : H (gm op e n x) := by
  induction n with
  | zero => exact s.1
  | succ n ih => exact s.2.1 _ _ ih hx
theorem ord_q {G : Type} {op : G → G → G} {e : G} {iv : G → G} (h : isAb op e iv) {all : List G} (a : isAll all) {q : Nat} (hq : prm q) {x : G} (x0 : x ≠ e) (k : gm op e q x = e) : isOrd op e q x := by
  obtain ⟨n, o⟩ := ord_ex h a x
  rcases hq.2 n ((ord_dvd h o q).mp k) with z | z
  · rw [z] at o
    have := o.2.1
    rw [gm_1 h] at this
    exact absurd this x0
  · rw [← z]; exact o
/-- one more generator -/
theorem grow {G : Type} {op : G → G → G} {e : G} {iv : G → G} (h : isAb op e iv) {all : List G} (a : isAll all) {q : Nat} (hq : prm q) {H : G → Prop} (s : isSub op e iv H) {x : G} (hx : ¬ H x) (k : gm op e q x = e) :
    isSub op e iv (fun z => ∃ y i, H y ∧ z = op y (gm op e i x)) ∧ cN all (fun z => ∃ y i, H y ∧ z = op y (gm op e i x)) = cN all H * q := by
  have x0 : x ≠ e := fun z => hx (by rw [z]; exact s.1)
  have o := ord_q h a hq x0 k
  have mod : ∀ i, gm op e i x = gm op e (i % q) x := fun i => by
    have := Nat.div_add_mod i q
    rw [← this, gm_add h, Nat.mul_comm q, gm_mul h, k, gm_e h, ab_0l h, Nat.mul_add_mod_self_right, Nat.mod_mod]
  refine ⟨⟨⟨e, 0, s.1, (h.2.2.1 e).symm⟩, ?_, ?_⟩, ?_⟩
  · rintro _ _ ⟨y, i, hy, rfl⟩ ⟨y', i', hy', rfl⟩
    exact ⟨op y y', i + i', s.2.1 _ _ hy hy', by rw [ab_4 h, gm_add h]⟩
  · rintro _ ⟨y, i, hy, rfl⟩
    refine ⟨iv y, q * i - i, s.2.2 _ hy, ?_⟩
    rw [ab_ivo h]
    congr 1
    refine (ab_ivu h ?_).symm
    have : i ≤ q * i := Nat.le_mul_of_pos_left i (by have := hq.1; omega)
    rw [← gm_add h, show i + (q * i - i) = i * q by rw [Nat.mul_comm i q]; omega, gm_mul h, k, gm_e h]
  · have c1 : cN all (fun z => ∃ i, i < q ∧ z = gm op e i x) = q := by
      have nd : ((List.range q).map (fun i => gm op e i x)).Nodup := by
        unfold List.Nodup
        rw [List.pairwise_map]
        exact List.Pairwise.imp_of_mem (fun ha hb hne z => hne (ord_inj h o (List.mem_range.mp ha) (List.mem_range.mp hb) z)) List.nodup_range
      have l1 := (nd_sub _ (fl (fun z => ∃ i, i < q ∧ z = gm op e i x) all) nd (fl_nodup a.1) (fun c hc => by
        obtain ⟨i, hi, rfl⟩ := List.mem_map.mp hc
        exact fl_mem.mpr ⟨a.2 _, i, List.mem_range.mp hi, rfl⟩)).1
      have l2 := (nd_sub (fl (fun z => ∃ i, i < q ∧ z = gm op e i x) all) _ (fl_nodup a.1) nd (fun c hc => by
        obtain ⟨-, i, hi, rfl⟩ := fl_mem.mp hc
        exact List.mem_map.mpr ⟨i, List.mem_range.mpr hi, rfl⟩)).1
      rw [List.length_map, List.length_range] at l1 l2
      unfold cN; omega
    have c2 := cN_prod a (P := H) (Q := fun z => ∃ i, i < q ∧ z = gm op e i x) (R := fun z => ∃ y i, H y ∧ z = op y (gm op e i x)) op (fun y z hy hz => by
        obtain ⟨i, -, rfl⟩ := hz; exact ⟨y, i, hy, rfl⟩) (fun z hz => by
        obtain ⟨y, i, hy, rfl⟩ := hz
        exact ⟨y, _, hy, ⟨i % q, Nat.mod_lt _ (by have := hq.1; omega), rfl⟩, by rw [← mod i]⟩) (fun y z y' z' h1 h2 h3 h4 kk => by
        obtain ⟨i, hi, rfl⟩ := h2
        obtain ⟨j, hj, rfl⟩ := h4
        -- the difference of the multiples is in H
        have key : ∀ {i j : Nat} {y y' : G}, i ≤ j → i < q → j < q → H y → H y' → op y (gm op e i x) = op y' (gm op e j x) → i = j := by
          intro i j y y' hij hi hj hy hy' kk
          refine Classical.byContradiction (fun ne => ?_)
          have e1 : y = op y' (gm op e (j - i) x) := by
            refine ab_canc h (x := gm op e i x) ?_
            rw [h.2.1 _ y, kk, show j = (j - i) + i by omega, gm_add h, show (j - i) + i - i = j - i by omega, ← h.1, h.2.1]
          have e2 : gm op e (j - i) x = op (iv y') y := by
            rw [e1, ← h.1, h.2.1 (iv y'), h.2.2.2, ab_0l h]
          have e3 : H (gm op e (j - i) x) := by rw [e2]; exact s.2.1 _ _ (s.2.2 _ hy') hy
          have c : Nat.gcd (j - i) q = 1 := Nat.Coprime.symm (prm_cop hq (fun d => by have := Nat.le_of_dvd (by omega) d; omega))
          obtain ⟨u, v, e4⟩ := bez_nat (a := j - i) (b := q) (by omega) (by omega)
          rw [c] at e4
          refine hx ?_
          rw [← gm_1mod h (k := v) k, ← e4, gm_mul h]
          exact sub_gm s u e3
        have ij : i = j := by
          by_cases le : i ≤ j
          · exact key le hi hj h1 h3 kk
          · exact (key (by omega) hj hi h3 h1 kk.symm).symm
        subst ij
        rw [h.2.1 y, h.2.1 y'] at kk
        exact ⟨ab_canc h kk, rfl⟩)
    rw [c2, c1]
theorem cN_e {G : Type} {all : List G} (a : isAll all) (e : G) : cN all (fun z => z = e) = 1 := by
  have l1 := (nd_sub [e] (fl (fun z => z = e) all) (List.nodup_cons.mpr ⟨List.not_mem_nil, List.Pairwise.nil⟩) (fl_nodup a.1) (fun c hc => fl_mem.mpr ⟨a.2 c, List.mem_singleton.mp hc⟩)).1
  have l2 := (nd_sub (fl (fun z => z = e) all) [e] (fl_nodup a.1) (List.nodup_cons.mpr ⟨List.not_mem_nil, List.Pairwise.nil⟩) (fun c hc => List.mem_singleton.mpr (fl_mem.mp hc).2)).1
  unfold cN
  show _ = 1
  have : ([e] : List G).length = 1 := rfl
  omega
/-- a subgroup that q makes nothing, of fewer than q^3: it has 1, q or q^2 -/
theorem sub_123 {G : Type} {op : G → G → G} {e : G} {iv : G → G} (h : isAb op e iv) {all : List G} (a : isAll all) {q : Nat} (hq : prm q) {V : G → Prop} (s : isSub op e iv V) (k : ∀ x, V x → gm op e q x = e) (few : cN all V < q * q * q) : (cN all V = 1 ∧ ∀ x, V x → x = e) ∨ cN all V = q ∨ cN all V = q * q := by
  have q2 := hq.1
  have s0 : isSub op e iv (fun z => z = e) := ⟨rfl, fun x y hx hy => by rw [hx, hy, h.2.2.1], fun x hx => by rw [hx, ab_ive h]⟩
  have sub : ∀ {H : G → Prop} {x : G}, (∀ z, H z → V z) → V x → ∀ z, (∃ y i, H y ∧ z = op y (gm op e i x)) → V z := fun hH hx z hz => by
    obtain ⟨y, i, hy, rfl⟩ := hz
    exact s.2.1 _ _ (hH y hy) (sub_gm s i hx)
  by_cases c1 : ∀ x, V x → x = e
  · left
    refine ⟨?_, c1⟩
    rw [cN_ext a (Q := fun z => z = e) (fun x => ⟨c1 x, fun z => by rw [z]; exact s.1⟩), cN_e a]
  · obtain ⟨x, hx⟩ := Classical.not_forall.mp c1
    obtain ⟨vx, x0⟩ := Classical.not_imp.mp hx
    obtain ⟨s1, n1⟩ := grow h a hq s0 (x := x) x0 (k x vx)
    rw [cN_e a, Nat.one_mul] at n1
    have i1 := sub (H := fun z => z = e) (x := x) (fun z hz => by rw [hz]; exact s.1) vx
    by_cases c2 : ∀ z, V z → ∃ y i, y = e ∧ z = op y (gm op e i x)
    · right; left
      rw [cN_ext a (fun z => ⟨c2 z, i1 z⟩), n1]
    · right; right
      obtain ⟨w, hw⟩ := Classical.not_forall.mp c2
      obtain ⟨vw, w0⟩ := Classical.not_imp.mp hw
      obtain ⟨s2, n2⟩ := grow h a hq s1 (x := w) w0 (k w vw)
      rw [n1] at n2
      have i2 := sub i1 vw
      have c3 : ∀ z, V z → ∃ y i, (∃ y' i', y' = e ∧ y = op y' (gm op e i' x)) ∧ z = op y (gm op e i w) := Classical.byContradiction (fun ne => by
        obtain ⟨u, hu⟩ := Classical.not_forall.mp ne
        obtain ⟨vu, u0⟩ := Classical.not_imp.mp hu
        obtain ⟨s3, n3⟩ := grow h a hq s2 (x := u) u0 (k u vu)
        rw [n2] at n3
        have := cN_le a (sub i2 vu)
        omega)
      rw [cN_ext a (fun z => ⟨c3 z, i2 z⟩), n2]
/-- those that q makes nothing and that are multiples by q^k -/
def Vq {G : Type} (op : G → G → G) (e : G) (q k : Nat) : G → Prop := fun v => gm op e q v = e ∧ ∃ z, gm op e (q ^ k) z = v
theorem Vq_sub {G : Type} {op : G → G → G} {e : G} {iv : G → G} (h : isAb op e iv) (q k : Nat) : isSub op e iv (Vq op e q k) := by
  refine ⟨⟨gm_e h q, e, gm_e h _⟩, ?_, ?_⟩
  · rintro _ _ ⟨h1, x, rfl⟩ ⟨h2, y, rfl⟩
    exact ⟨by rw [gm_op h, h1, h2, h.2.2.1], op x y, gm_op h _ _ _⟩
  · rintro _ ⟨h1, x, rfl⟩
    exact ⟨by rw [gm_iv h, h1, ab_ive h], iv x, gm_iv h _ _⟩
theorem Vq_mono {G : Type} {op : G → G → G} {e : G} {iv : G → G} (h : isAb op e iv) {q k : Nat} {v : G} (hv : Vq op e q (k + 1) v) : Vq op e q k v := by
  obtain ⟨h1, x, rfl⟩ := hv
  exact ⟨h1, gm op e q x, by rw [← gm_mul h, Nat.pow_succ]⟩
theorem kap_succ {G : Type} {op : G → G → G} {e : G} {iv : G → G} (h : isAb op e iv) {all : List G} (a : isAll all) (q k : Nat) : kap op e all (q ^ (k + 1)) = kap op e all (q ^ k) * cN all (Vq op e q k) := by
  have := fib h a (q ^ k) (fun v => gm op e q v = e)
  rw [show cN all (fun v => gm op e q v = e ∧ ∃ z, gm op e (q ^ k) z = v) = cN all (Vq op e q k) from rfl] at this
  rw [← this]
  unfold kap
  refine cN_ext a (fun x => ?_)
  rw [← gm_mul h, Nat.pow_succ, Nat.mul_comm]
