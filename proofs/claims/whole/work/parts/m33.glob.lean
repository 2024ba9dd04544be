theorem cN_split {G : Type} (all : List G) (P Q : G → Prop) : cN all P = cN all (fun x => P x ∧ Q x) + cN all (fun x => P x ∧ ¬ Q x) := by
  unfold cN
  have := fl_len Q (fl P all)
  rw [fl_fl, fl_fl] at this
  omega
/-- multiples -/
def mult {G : Type} (op : G → G → G) (e : G) (g : G) : G → Prop := fun z => ∃ i, z = gm op e i g
theorem mult_sub {G : Type} {op : G → G → G} {e : G} {iv : G → G} (h : isAb op e iv) {n : Nat} {g : G} (o : isOrd op e n g) : isSub op e iv (mult op e g) := by
  refine ⟨⟨0, rfl⟩, ?_, ?_⟩
  · rintro _ _ ⟨i, rfl⟩ ⟨j, rfl⟩; exact ⟨i + j, (gm_add h i j g).symm⟩
  · rintro _ ⟨i, rfl⟩
    refine ⟨n * i - i, ?_⟩
    refine (ab_ivu h ?_).symm
    have : i ≤ n * i := Nat.le_mul_of_pos_left i o.1
    rw [← gm_add h, show i + (n * i - i) = i * n by rw [Nat.mul_comm i n]; omega, gm_mul h, o.2.1, gm_e h]
theorem mult_lt {G : Type} {op : G → G → G} {e : G} {iv : G → G} (h : isAb op e iv) {n : Nat} {g : G} (o : isOrd op e n g) {z : G} (hz : mult op e g z) : ∃ i, i < n ∧ z = gm op e i g := by
  obtain ⟨i, rfl⟩ := hz
  refine ⟨i % n, Nat.mod_lt _ o.1, ?_⟩
  conv => lhs; rw [← Nat.div_add_mod i n, gm_add h, Nat.mul_comm n, gm_mul h, o.2.1, gm_e h, ab_0l h]
/-- a subgroup and one more: how many, where m is the least with m z in it -/
theorem rel_cnt {G : Type} {op : G → G → G} {e : G} {iv : G → G} (h : isAb op e iv) {all : List G} (a : isAll all) {H : G → Prop} (s : isSub op e iv H) {z : G} {m : Nat} (least : ∀ i, 0 < i → i < m → ¬ H (gm op e i z)) : cN all H * m ≤ cN all (fun w => ∃ y i, H y ∧ w = op y (gm op e i z)) := by
  have nd : ((prod (fl H all) (List.range m)).map (fun w => op w.1 (gm op e w.2 z))).Nodup := by
    unfold List.Nodup
    rw [List.pairwise_map]
    refine List.Pairwise.imp_of_mem (fun {p q} ha hb hne k => hne ?_) (prod_nd List.nodup_range (fl_nodup a.1))
    have h1 := prod_mem.mp ha; have h2 := prod_mem.mp hb
    have y1 := (fl_mem.mp h1.1).2; have y2 := (fl_mem.mp h2.1).2
    have i1 := List.mem_range.mp h1.2; have i2 := List.mem_range.mp h2.2
    have key : ∀ {i j : Nat} {y y' : G}, i ≤ j → j < m → H y → H y' → op y (gm op e i z) = op y' (gm op e j z) → i = j := by
      intro i j y y' hij hj hy hy' kk
      refine Classical.byContradiction (fun ne => least (j - i) (by omega) (by omega) ?_)
      have e1 : y = op y' (gm op e (j - i) z) := by
        refine ab_canc h (x := gm op e i z) ?_
        rw [h.2.1 _ y, kk, show j = (j - i) + i by omega, gm_add h, show (j - i) + i - i = j - i by omega, ← h.1, h.2.1]
      have e2 : gm op e (j - i) z = op (iv y') y := by
        rw [e1, ← h.1, h.2.1 (iv y'), h.2.2.2, ab_0l h]
      rw [e2]; exact s.2.1 _ _ (s.2.2 _ hy') hy
    have e1 : p.2 = q.2 := by
      by_cases le : p.2 ≤ q.2
      · exact key le i2 y1 y2 k
      · exact (key (by omega) i1 y2 y1 k.symm).symm
    refine Prod.ext ?_ e1
    have k' : op p.1 (gm op e p.2 z) = op q.1 (gm op e q.2 z) := k
    rw [e1, h.2.1 p.1, h.2.1 q.1] at k'
    exact ab_canc h k'
  have l1 := (nd_sub _ (fl (fun w => ∃ y i, H y ∧ w = op y (gm op e i z)) all) nd (fl_nodup a.1) (fun c hc => by
    obtain ⟨w, hw, rfl⟩ := List.mem_map.mp hc
    exact fl_mem.mpr ⟨a.2 _, w.1, w.2, (fl_mem.mp (prod_mem.mp hw).1).2, rfl⟩)).1
  rw [List.length_map, prod_len, List.length_range] at l1
  exact l1
theorem mult_cnt {G : Type} {op : G → G → G} {e : G} {iv : G → G} (h : isAb op e iv) {all : List G} (a : isAll all) {n : Nat} {g : G} (o : isOrd op e n g) : cN all (mult op e g) = n := by
  have nd : ((List.range n).map (fun i => gm op e i g)).Nodup := by
    unfold List.Nodup
    rw [List.pairwise_map]
    exact List.Pairwise.imp_of_mem (fun ha hb hne z => hne (ord_inj h o (List.mem_range.mp ha) (List.mem_range.mp hb) z)) List.nodup_range
  have l1 := (nd_sub _ (fl (mult op e g) all) nd (fl_nodup a.1) (fun c hc => by
    obtain ⟨i, hi, rfl⟩ := List.mem_map.mp hc
    exact fl_mem.mpr ⟨a.2 _, i, rfl⟩)).1
  have l2 := (nd_sub (fl (mult op e g) all) _ (fl_nodup a.1) nd (fun c hc => by
    obtain ⟨i, hi, rfl⟩ := mult_lt h o (fl_mem.mp hc).2
    exact List.mem_map.mpr ⟨i, List.mem_range.mpr hi, rfl⟩)).1
  rw [List.length_map, List.length_range] at l1 l2
  unfold cN; omega
/-- what is known of a prime -/
def isQ {G : Type} (op : G → G → G) (e : G) (all : List G) (q A B : Nat) : Prop := prm q ∧ B ≤ A ∧ (∀ k, kap op e all (q ^ k) = q ^ (min k A + min k B)) ∧ (∀ k, cN all (Vq op e q k) = if k < B then q * q else if k < A then q else 1) ∧ ∃ m, all.length = q ^ (A + B) * m ∧ ¬ q ∣ m
theorem isQ_ex {G : Type} {op : G → G → G} {e : G} {iv : G → G} (h : isAb op e iv) {all : List G} (a : isAll all) (few : ∀ q, prm q → kap op e all q < q * q * q) {q : Nat} (hq : prm q) (pos : 0 < all.length) : ∃ A B, isQ op e all q A B := by
  obtain ⟨A, B, BA, hk, hv⟩ := ab_ex h a hq (few q hq)
  obtain ⟨s, m, hN, nd⟩ := part_ex hq.1 all.length pos
  have := (syl h a few hq hN nd BA hk).1
  exact ⟨A, B, hq, BA, hk, hv, m, by rw [this]; exact hN, nd⟩
theorem q_kill {G : Type} {op : G → G → G} {e : G} {iv : G → G} (h : isAb op e iv) {all : List G} (a : isAll all) {q A B : Nat} (Q : isQ op e all q A B) {k : Nat} {z : G} (hz : gm op e (q ^ k) z = e) : gm op e (q ^ A) z = e := by
  by_cases c : k ≤ A
  · exact gm_dvd h ⟨q ^ (A - k), by rw [← Nat.pow_add]; congr 1; omega⟩ hz
  · refine cN_eq a (P := fun x => gm op e (q ^ A) x = e) (Q := fun x => gm op e (q ^ k) x = e) (fun x hx => gm_dvd h ⟨q ^ (k - A), by rw [← Nat.pow_add]; congr 1; omega⟩ hx) ?_ z hz
    have k1 := Q.2.2.1 A
    have k2 := Q.2.2.1 k
    have BA := Q.2.1
    unfold kap at k1 k2
    rw [k1, k2, show min k A + min k B = min A A + min A B by omega]
    exact Nat.le_refl _
theorem q_max {G : Type} {op : G → G → G} {e : G} {iv : G → G} (h : isAb op e iv) {all : List G} (a : isAll all) {q A B : Nat} (Q : isQ op e all q A B) : ∃ z, isOrd op e (q ^ A) z := by
  have q2 := Q.1.1
  by_cases c : A = 0
  · refine ⟨e, ?_⟩
    rw [c, Nat.pow_zero]
    exact ⟨by omega, gm_e h 1, fun i h0 hi => by omega⟩
  · -- V(A - 1) has more than the neutral one
    have v := Q.2.2.2.1 (A - 1)
    have ne : ¬ ∀ x, Vq op e q (A - 1) x → x = e := fun k => by
      have : cN all (Vq op e q (A - 1)) = 1 := by
        rw [cN_ext a (Q := fun z => z = e) (fun x => ⟨k x, fun z => by rw [z]; exact (Vq_sub h q (A - 1)).1⟩), cN_e a]
      rw [this] at v
      split at v
      · have := Nat.mul_le_mul q2 q2; omega
      · rw [if_pos (by omega)] at v; omega
    obtain ⟨v, hv⟩ := Classical.not_forall.mp ne
    obtain ⟨⟨h1, z, hz⟩, v0⟩ := Classical.not_imp.mp hv
    obtain ⟨o, ho⟩ := ord_ex h a z
    have d : o ∣ q ^ A := (ord_dvd h ho _).mp (by
      rw [show q ^ A = q * q ^ (A - 1) by rw [Nat.mul_comm, ← Nat.pow_succ]; congr 1; omega, gm_mul h, hz, h1])
    -- o is a power of q
    obtain ⟨i, m, em, nd⟩ := part_ex q2 o ho.1
    have c2 : Nat.Coprime m (q ^ A) := Nat.Coprime.symm (cop_pow (prm_cop Q.1 nd) A)
    have m1 : m = 1 := Nat.Coprime.eq_one_of_dvd c2 (Nat.dvd_trans ⟨q ^ i, by rw [em, Nat.mul_comm]⟩ d)
    rw [m1, Nat.mul_one] at em
    have iA : A ≤ i := Classical.byContradiction (fun w => v0 (by
      rw [← hz]
      refine gm_dvd h (m := o) ⟨q ^ (A - 1 - i), by rw [em, ← Nat.pow_add]; congr 1; omega⟩ ho.2.1))
    have Ai : i ≤ A := by
      rw [em] at d
      refine Classical.byContradiction (fun w => ?_)
      have := Nat.le_of_dvd (Nat.pow_pos (by omega)) d
      have := Nat.pow_lt_pow_right (show 1 < q by omega) (show A < i by omega)
      omega
    exact ⟨z, by rw [show A = i by omega, ← em]; exact ho⟩
/-- powers of q by which z comes to a multiple of g: at most B where g has the greatest order; and how many they make -/
theorem q_rel {G : Type} {op : G → G → G} {e : G} {iv : G → G} (h : isAb op e iv) {all : List G} (a : isAll all) {q A B : Nat} (Q : isQ op e all q A B) {i j k : Nat} {g z : G} (og : isOrd op e (q ^ i) g) (hz : gm op e (q ^ k) z = e) (least : ∀ t, t < j → ¬ mult op e g (gm op e (q ^ t) z)) :
    i + j ≤ A + B ∧ (i + j = A + B → (∃ t, t ≤ i ∧ gm op e (q ^ t) z = e) → i = A) := by
  have q2 := Q.1.1
  have s := mult_sub h og
  -- the least number of all is a power of q
  have lst : ∀ m, 0 < m → m < q ^ j → ¬ mult op e g (gm op e m z) := fun m m0 mj hm => by
    obtain ⟨t, m', em, nd⟩ := part_ex q2 m m0
    have tj : t < j := Classical.byContradiction (fun w => by
      have : q ^ j ≤ q ^ t := Nat.pow_le_pow_right (by omega) (by omega)
      have m1 : 0 < m' := Nat.pos_of_ne_zero (fun z => by rw [z, Nat.mul_zero] at em; omega)
      have := Nat.mul_le_mul this m1
      omega)
    refine least t tj ?_
    -- m' has an inverse modulo a power of q
    have m1 : 0 < m' := Nat.pos_of_ne_zero (fun z => by rw [z, Nat.mul_zero] at em; omega)
    have c : Nat.gcd m' (q ^ k) = 1 := Nat.Coprime.symm (cop_pow (prm_cop Q.1 nd) k)
    obtain ⟨u, v, e1⟩ := bez_nat (a := m') (b := q ^ k) m1 (Nat.pow_pos (by omega))
    rw [c] at e1
    have : gm op e (q ^ t) z = gm op e u (gm op e m z) := by
      rw [← gm_mul h, em, show u * (q ^ t * m') = q ^ t * (u * m') by grind, gm_mul h, e1, gm_1mod h hz]
    rw [this]; exact sub_gm s u hm
  have cnt := rel_cnt h a s lst
  rw [mult_cnt h a og, ← Nat.pow_add] at cnt
  -- all of them are made nothing by a power of q
  have inq : ∀ w, (∃ y i, mult op e g y ∧ w = op y (gm op e i z)) → gm op e (q ^ A) w = e := fun w hw => by
    obtain ⟨_, t, ⟨r, rfl⟩, rfl⟩ := hw
    have g1 := q_kill h a Q og.2.1
    have z1 := q_kill h a Q hz
    rw [gm_op h, ← gm_mul h, Nat.mul_comm, gm_mul h, g1, gm_e h, ← gm_mul h, Nat.mul_comm, gm_mul h, z1, gm_e h, h.2.2.1]
  have kA := Q.2.2.1 A
  have BA := Q.2.1
  rw [show min A A + min A B = A + B by omega] at kA
  have le := cN_le a inq
  have lt : q ^ (i + j) ≤ q ^ (A + B) := by
    unfold kap at kA
    omega
  have ij : i + j ≤ A + B := Classical.byContradiction (fun w => by
    have := Nat.pow_lt_pow_right (show 1 < q by omega) (show A + B < i + j by omega)
    omega)
  refine ⟨ij, fun eq ht => ?_⟩
  -- then these are all, and q^i makes them nothing
  have al := cN_eq a inq (by unfold kap at kA; rw [kA, ← eq]; exact cnt)
  obtain ⟨t, ti, hz2⟩ := ht
  obtain ⟨x, ox⟩ := q_max h a Q
  have xi : gm op e (q ^ i) x = e := by
    obtain ⟨_, r, ⟨r', rfl⟩, e2⟩ := al x ox.2.1
    have z3 : gm op e (q ^ i) z = e := gm_dvd h ⟨q ^ (i - t), by rw [← Nat.pow_add]; congr 1; omega⟩ hz2
    rw [e2, gm_op h, ← gm_mul h, Nat.mul_comm, gm_mul h, og.2.1, gm_e h, ← gm_mul h, Nat.mul_comm, gm_mul h, z3, gm_e h, h.2.2.1]
  have d := (ord_dvd h ox _).mp xi
  have Ai : A ≤ i := Classical.byContradiction (fun w => by
    have := Nat.le_of_dvd (Nat.pow_pos (by omega)) d
    have := Nat.pow_lt_pow_right (show 1 < q by omega) (show i < A by omega)
    omega)
  have iA : i ≤ A := by
    have d2 := (ord_dvd h og _).mp (q_kill h a Q og.2.1)
    refine Classical.byContradiction (fun w => ?_)
    have := Nat.le_of_dvd (Nat.pow_pos (by omega)) d2
    have := Nat.pow_lt_pow_right (show 1 < q by omega) (show A < i by omega)
    omega
  omega
/-- beside one of the greatest order there is another that makes all with it -/
theorem q_other {G : Type} {op : G → G → G} {e : G} {iv : G → G} (h : isAb op e iv) {all : List G} (a : isAll all) {q A B : Nat} (Q : isQ op e all q A B) {g : G} (og : isOrd op e (q ^ A) g) : ∃ z, isOrd op e (q ^ A) z ∧ ∀ t, t < B → ¬ mult op e g (gm op e (q ^ t) z) := by
  have q2 := Q.1.1
  by_cases B0 : B = 0
  · exact ⟨g, og, fun t ht => by omega⟩
  · have s := mult_sub h og
    have BA := Q.2.1
    -- some z whose multiple by q^(B - 1) isn't one of g
    have ex : ∃ z, gm op e (q ^ B) z = e ∧ ¬ mult op e g (gm op e (q ^ (B - 1)) z) := Classical.byContradiction (fun ne => by
      have v := Q.2.2.2.1 (B - 1)
      rw [if_pos (by omega)] at v
      have sub : ∀ x, Vq op e q (B - 1) x → mult op e (gm op e (q ^ (A - 1)) g) x := fun x hx => by
        obtain ⟨h1, z, rfl⟩ := hx
        have zB : gm op e (q ^ B) z = e := by rw [show q ^ B = q * q ^ (B - 1) by rw [Nat.mul_comm, ← Nat.pow_succ]; congr 1; omega, gm_mul h]; exact h1
        have m1 : mult op e g (gm op e (q ^ (B - 1)) z) := Classical.byContradiction (fun w => ne ⟨z, zB, w⟩)
        obtain ⟨i, hi⟩ := m1
        rw [hi] at h1 ⊢
        rw [← gm_mul h] at h1
        have d := (ord_dvd h og _).mp h1
        rw [show q ^ A = q * q ^ (A - 1) by rw [Nat.mul_comm, ← Nat.pow_succ]; congr 1; omega] at d
        obtain ⟨r, hr⟩ := Nat.dvd_of_mul_dvd_mul_left (by omega) d
        exact ⟨r, by rw [hr, Nat.mul_comm, gm_mul h]⟩
      have o2 : isOrd op e q (gm op e (q ^ (A - 1)) g) := ord_mul h (by omega) (by rw [← Nat.pow_succ, show (A - 1).succ = A by omega]; exact og)
      have := cN_le a sub
      rw [mult_cnt h a o2, v] at this
      have := Nat.mul_lt_mul_of_pos_left (show 1 < q by omega) (show 0 < q by omega)
      omega)
    obtain ⟨z, zB, hz⟩ := ex
    have hz' : ∀ t, t < B → ¬ mult op e g (gm op e (q ^ t) z) := fun t ht m => hz (by
      rw [show q ^ (B - 1) = q ^ (B - 1 - t) * q ^ t by rw [← Nat.pow_add]; congr 1; omega, gm_mul h]
      exact sub_gm s _ m)
    by_cases full : ∀ t, t < A → gm op e (q ^ t) z ≠ e
    · -- z itself
      refine ⟨z, ?_, hz'⟩
      obtain ⟨o, ho⟩ := ord_ex h a z
      have d := (ord_dvd h ho _).mp (q_kill h a Q zB)
      obtain ⟨i, m, em, nd⟩ := part_ex q2 o ho.1
      have c2 : Nat.Coprime m (q ^ A) := Nat.Coprime.symm (cop_pow (prm_cop Q.1 nd) A)
      have m1 : m = 1 := Nat.Coprime.eq_one_of_dvd c2 (Nat.dvd_trans ⟨q ^ i, by rw [em, Nat.mul_comm]⟩ d)
      rw [m1, Nat.mul_one] at em
      have iA : A ≤ i := Classical.byContradiction (fun w => full i (by omega) (by rw [← em]; exact ho.2.1))
      have Ai : i ≤ A := by
        rw [em] at d
        refine Classical.byContradiction (fun w => ?_)
        have := Nat.le_of_dvd (Nat.pow_pos (by omega)) d
        have := Nat.pow_lt_pow_right (show 1 < q by omega) (show A < i by omega)
        omega
      rw [show A = i by omega, ← em]; exact ho
    · -- z + g
      obtain ⟨t, ht⟩ := Classical.not_forall.mp full
      obtain ⟨tA, ht⟩ := Classical.not_imp.mp ht
      have zt := Classical.not_not.mp ht
      have z1 : gm op e (q ^ (A - 1)) z = e := gm_dvd h ⟨q ^ (A - 1 - t), by rw [← Nat.pow_add]; congr 1; omega⟩ zt
      refine ⟨op z g, ?_, fun r hr m => hz' r hr ?_⟩
      · obtain ⟨o, ho⟩ := ord_ex h a (op z g)
        have d := (ord_dvd h ho (q ^ A)).mp (by rw [gm_op h, og.2.1, q_kill h a Q zB, h.2.2.1])
        obtain ⟨i, m, em, nd⟩ := part_ex q2 o ho.1
        have c2 : Nat.Coprime m (q ^ A) := Nat.Coprime.symm (cop_pow (prm_cop Q.1 nd) A)
        have m1 : m = 1 := Nat.Coprime.eq_one_of_dvd c2 (Nat.dvd_trans ⟨q ^ i, by rw [em, Nat.mul_comm]⟩ d)
        rw [m1, Nat.mul_one] at em
        have iA : A ≤ i := Classical.byContradiction (fun w => by
          have k1 : gm op e (q ^ (A - 1)) (op z g) = e := gm_dvd h (m := o) ⟨q ^ (A - 1 - i), by rw [em, ← Nat.pow_add]; congr 1; omega⟩ ho.2.1
          rw [gm_op h, z1, ab_0l h] at k1
          have d3 := (ord_dvd h og _).mp k1
          have := Nat.le_of_dvd (Nat.pow_pos (by omega)) d3
          have := Nat.pow_lt_pow_right (show 1 < q by omega) (show A - 1 < A by omega)
          omega)
        have Ai : i ≤ A := by
          rw [em] at d
          refine Classical.byContradiction (fun w => ?_)
          have := Nat.le_of_dvd (Nat.pow_pos (by omega)) d
          have := Nat.pow_lt_pow_right (show 1 < q by omega) (show A < i by omega)
          omega
        rw [show A = i by omega, ← em]; exact ho
      · rw [gm_op h] at m
        have : gm op e (q ^ r) z = op (op (gm op e (q ^ r) z) (gm op e (q ^ r) g)) (iv (gm op e (q ^ r) g)) := (ab_sub h _ _).symm
        rw [this]
        exact s.2.1 _ _ m (s.2.2 _ ⟨_, rfl⟩)
