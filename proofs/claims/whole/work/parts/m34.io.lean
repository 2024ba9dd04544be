/-- n1 and n2: by primes -/
def isIO {G : Type} (op : G → G → G) (e : G) (all : List G) (I O : Nat) : Prop := I * O = all.length ∧ ∀ q A B, isQ op e all q A B → (∃ i, I = q ^ B * i ∧ ¬ q ∣ i) ∧ ∃ o, O = q ^ A * o ∧ ¬ q ∣ o
theorem dvd_parts {m : Nat} : ∀ o : Nat, 0 < o → (∀ q i, prm q → q ^ i ∣ o → q ^ i ∣ m) → o ∣ m := by
  intro o
  induction o using Nat.strongRecOn with
  | ind o ih =>
    intro o0 k
    by_cases o1 : o = 1
    · rw [o1]; exact Nat.one_dvd m
    · obtain ⟨q, hq, dq⟩ := prm_ex (n := o) (by omega)
      obtain ⟨i, o', eo, nd⟩ := part_ex hq.1 o o0
      have o0' : 0 < o' := Nat.pos_of_ne_zero (fun z => by rw [z, Nat.mul_zero] at eo; omega)
      have i0 : 0 < i := Nat.pos_of_ne_zero (fun z => by rw [z, Nat.pow_zero, Nat.one_mul] at eo; rw [eo] at dq; exact nd dq)
      have big : 2 ≤ q ^ i := by
        obtain ⟨j, rfl⟩ : ∃ j, i = j + 1 := ⟨i - 1, by omega⟩
        rw [Nat.pow_succ]
        have := Nat.mul_le_mul (Nat.pow_pos (n := j) (show 0 < q by have := hq.1; omega)) hq.1
        omega
      have lt : o' < o := by have := Nat.mul_le_mul_right o' big; omega
      have d1 := k q i hq ⟨o', eo⟩
      have d2 := ih o' lt o0' (fun r t hr hd => k r t hr (Nat.dvd_trans hd ⟨q ^ i, by rw [eo, Nat.mul_comm]⟩))
      rw [eo]
      exact Nat.Coprime.mul_dvd_of_dvd_of_dvd (cop_pow (prm_cop hq nd) i) d1 d2
theorem io_kill {G : Type} {op : G → G → G} {e : G} {iv : G → G} (h : isAb op e iv) {all : List G} (a : isAll all) (few : ∀ q, prm q → kap op e all q < q * q * q) {I O : Nat} (io : isIO op e all I O) (z : G) : gm op e O z = e := by
  have pos : 0 < all.length := by
    cases q : all with
    | nil => have := a.2 e; rw [q] at this; exact absurd this List.not_mem_nil
    | cons c l => exact Nat.succ_pos _
  obtain ⟨o, ho⟩ := ord_ex h a z
  refine (ord_dvd h ho O).mpr (dvd_parts o ho.1 (fun q i hq d => ?_))
  obtain ⟨A, B, Q⟩ := isQ_ex h a few hq pos
  obtain ⟨o', eo, nd⟩ := (io.2 q A B Q).2
  obtain ⟨k, ek⟩ := d
  have k0 : 0 < k := Nat.pos_of_ne_zero (fun w => by rw [w, Nat.mul_zero] at ek; have := ho.1; omega)
  have o2 : isOrd op e (q ^ i) (gm op e k z) := ord_mul h (Nat.pow_pos (by have := hq.1; omega)) (by rw [Nat.mul_comm, ← ek]; exact ho)
  have d2 := (ord_dvd h o2 _).mp (q_kill h a Q o2.2.1)
  exact Nat.dvd_trans d2 ⟨o', eo⟩
theorem io_ord {G : Type} {op : G → G → G} {e : G} {iv : G → G} (h : isAb op e iv) {all : List G} (a : isAll all) (few : ∀ q, prm q → kap op e all q < q * q * q) {I O : Nat} (io : isIO op e all I O) : ∀ m : Nat, 0 < m → m ∣ O → ∃ z, isOrd op e m z := by
  have pos : 0 < all.length := by
    cases q : all with
    | nil => have := a.2 e; rw [q] at this; exact absurd this List.not_mem_nil
    | cons c l => exact Nat.succ_pos _
  intro m
  induction m using Nat.strongRecOn with
  | ind m ih =>
    intro m0 d
    by_cases m1 : m = 1
    · exact ⟨e, by rw [m1]; exact ⟨by omega, gm_e h 1, fun i h0 hi => by omega⟩⟩
    · obtain ⟨q, hq, dq⟩ := prm_ex (n := m) (by omega)
      obtain ⟨i, m', em, nd⟩ := part_ex hq.1 m m0
      have m0' : 0 < m' := Nat.pos_of_ne_zero (fun z => by rw [z, Nat.mul_zero] at em; omega)
      have i0 : 0 < i := Nat.pos_of_ne_zero (fun z => by rw [z, Nat.pow_zero, Nat.one_mul] at em; rw [em] at dq; exact nd dq)
      have q2 := hq.1
      have big : 2 ≤ q ^ i := by
        obtain ⟨j, rfl⟩ : ∃ j, i = j + 1 := ⟨i - 1, by omega⟩
        rw [Nat.pow_succ]
        have := Nat.mul_le_mul (Nat.pow_pos (n := j) (show 0 < q by omega)) q2
        omega
      have lt : m' < m := by have := Nat.mul_le_mul_right m' big; omega
      obtain ⟨y, hy⟩ := ih m' lt m0' (Nat.dvd_trans ⟨q ^ i, by rw [em, Nat.mul_comm]⟩ d)
      obtain ⟨A, B, Q⟩ := isQ_ex h a few hq pos
      obtain ⟨o', eo, ndo⟩ := (io.2 q A B Q).2
      have dq2 : q ^ i ∣ q ^ A := by
        have : q ^ i ∣ q ^ A * o' := by rw [← eo]; exact Nat.dvd_trans ⟨m', em⟩ d
        exact Nat.Coprime.dvd_of_dvd_mul_right (cop_pow (prm_cop hq ndo) i) this
      obtain ⟨x, hx⟩ := q_max h a Q
      obtain ⟨k, ek⟩ := dq2
      have ox : isOrd op e (q ^ i) (gm op e k x) := ord_mul h (Nat.pow_pos (by omega)) (by rw [Nat.mul_comm, ← ek]; exact hx)
      refine ⟨op (gm op e k x) y, ?_⟩
      rw [em]
      exact ord_op h (cop_pow (prm_cop hq nd) i) ox hy
theorem gcd_pow {q : Nat} (hq : prm q) {i b m : Nat} (nd : ¬ q ∣ m) : Nat.gcd (q ^ i) (q ^ b * m) = q ^ min i b := by
  have c : Nat.Coprime (q ^ i) m := cop_pow (prm_cop hq nd) i
  rw [Nat.Coprime.gcd_mul_right_cancel_right _ (Nat.Coprime.symm c)]
  by_cases le : i ≤ b
  · rw [show min i b = i by omega]
    exact Nat.gcd_eq_left ⟨q ^ (b - i), by rw [← Nat.pow_add]; congr 1; omega⟩
  · rw [show min i b = b by omega]
    exact Nat.gcd_eq_right ⟨q ^ (i - b), by rw [← Nat.pow_add]; congr 1; omega⟩
theorem io_kap {G : Type} {op : G → G → G} {e : G} {iv : G → G} (h : isAb op e iv) {all : List G} (a : isAll all) (few : ∀ q, prm q → kap op e all q < q * q * q) {I O : Nat} (io : isIO op e all I O) : ∀ n : Nat, 0 < n → kap op e all n = Nat.gcd n I * Nat.gcd n O := by
  have pos : 0 < all.length := by
    cases q : all with
    | nil => have := a.2 e; rw [q] at this; exact absurd this List.not_mem_nil
    | cons c l => exact Nat.succ_pos _
  intro n
  induction n using Nat.strongRecOn with
  | ind n ih =>
    intro n0
    by_cases n1 : n = 1
    · rw [n1, kap_1 h a, Nat.gcd_one_left, Nat.gcd_one_left]
    · obtain ⟨q, hq, dq⟩ := prm_ex (n := n) (by omega)
      obtain ⟨i, m, em, nd⟩ := part_ex hq.1 n n0
      have m0 : 0 < m := Nat.pos_of_ne_zero (fun z => by rw [z, Nat.mul_zero] at em; omega)
      have i0 : 0 < i := Nat.pos_of_ne_zero (fun z => by rw [z, Nat.pow_zero, Nat.one_mul] at em; rw [em] at dq; exact nd dq)
      have q2 := hq.1
      have big : 2 ≤ q ^ i := by
        obtain ⟨j, rfl⟩ : ∃ j, i = j + 1 := ⟨i - 1, by omega⟩
        rw [Nat.pow_succ]
        have := Nat.mul_le_mul (Nat.pow_pos (n := j) (show 0 < q by omega)) q2
        omega
      have lt : m < n := by have := Nat.mul_le_mul_right m big; omega
      have c : Nat.Coprime (q ^ i) m := cop_pow (prm_cop hq nd) i
      obtain ⟨A, B, Q⟩ := isQ_ex h a few hq pos
      obtain ⟨⟨i', ei, ndi⟩, ⟨o', eo, ndo⟩⟩ := io.2 q A B Q
      rw [em, kap_mul h a (Nat.pow_pos (by omega)) m0 c, ih m lt m0, Q.2.2.1 i, Nat.Coprime.mul_gcd c I, Nat.Coprime.mul_gcd c O]
      have g1 : Nat.gcd (q ^ i) I = q ^ min i B := by rw [ei]; exact gcd_pow hq ndi
      have g2 : Nat.gcd (q ^ i) O = q ^ min i A := by rw [eo]; exact gcd_pow hq ndo
      rw [g1, g2, Nat.pow_add]; grind
/-- of one order: a power of a prime -/
theorem wrd_q {G : Type} {op : G → G → G} {e : G} {iv : G → G} (h : isAb op e iv) {all : List G} (a : isAll all) {q : Nat} (hq : prm q) (i : Nat) : wrd op e all (q ^ (i + 1)) + kap op e all (q ^ i) = kap op e all (q ^ (i + 1)) := by
  have q2 := hq.1
  have sp := cN_split all (fun x => gm op e (q ^ (i + 1)) x = e) (fun x => gm op e (q ^ i) x = e)
  have e1 : cN all (fun x => gm op e (q ^ (i + 1)) x = e ∧ gm op e (q ^ i) x = e) = kap op e all (q ^ i) := cN_ext a (fun x => ⟨fun z => z.2, fun z => ⟨gm_dvd h ⟨q, by rw [Nat.pow_succ]⟩ z, z⟩⟩)
  have e2 : cN all (fun x => gm op e (q ^ (i + 1)) x = e ∧ ¬ gm op e (q ^ i) x = e) = wrd op e all (q ^ (i + 1)) := by
    refine cN_ext a (fun x => ⟨fun z => ?_, fun z => ⟨z.2.1, fun w => ?_⟩⟩)
    · obtain ⟨o, ho⟩ := ord_ex h a x
      have d := (ord_dvd h ho _).mp z.1
      obtain ⟨t, m, em, nd⟩ := part_ex q2 o ho.1
      have c2 : Nat.Coprime m (q ^ (i + 1)) := Nat.Coprime.symm (cop_pow (prm_cop hq nd) _)
      have m1 : m = 1 := Nat.Coprime.eq_one_of_dvd c2 (Nat.dvd_trans ⟨q ^ t, by rw [em, Nat.mul_comm]⟩ d)
      rw [m1, Nat.mul_one] at em
      have t1 : i + 1 ≤ t := Classical.byContradiction (fun w => z.2 (gm_dvd h (m := o) ⟨q ^ (i - t), by rw [em, ← Nat.pow_add]; congr 1; omega⟩ ho.2.1))
      have t2 : t ≤ i + 1 := by
        rw [em] at d
        refine Classical.byContradiction (fun w => ?_)
        have := Nat.le_of_dvd (Nat.pow_pos (by omega)) d
        have := Nat.pow_lt_pow_right (show 1 < q by omega) (show i + 1 < t by omega)
        omega
      rw [show i + 1 = t by omega, ← em]; exact ho
    · have := Nat.le_of_dvd (Nat.pow_pos (by omega)) ((ord_dvd h z _).mp w)
      have := Nat.pow_lt_pow_right (show 1 < q by omega) (show i < i + 1 by omega)
      omega
  rw [e1, e2] at sp
  unfold kap at *
  omega
theorem wrd_1 {G : Type} {op : G → G → G} {e : G} {iv : G → G} (h : isAb op e iv) {all : List G} (a : isAll all) : wrd op e all 1 = 1 := by
  have : wrd op e all 1 = cN all (fun z => z = e) := cN_ext a (fun x => ⟨fun z => by have := z.2.1; rwa [gm_1 h] at this, fun z => by rw [z]; exact ⟨by omega, gm_e h 1, fun i h0 hi => by omega⟩⟩)
  rw [this, cN_e a]
theorem wrd_big {G : Type} {op : G → G → G} {e : G} {iv : G → G} (h : isAb op e iv) {all : List G} (a : isAll all) (few : ∀ q, prm q → kap op e all q < q * q * q) {I O : Nat} (io : isIO op e all I O) {n : Nat} (hn : ¬ n ∣ O) : wrd op e all n = 0 := by
  refine Classical.byContradiction (fun ne => ?_)
  unfold wrd cN at ne
  cases k : fl (fun x => isOrd op e n x) all with
  | nil => rw [k] at ne; exact ne rfl
  | cons c l =>
    have : c ∈ fl (fun x => isOrd op e n x) all := by rw [k]; exact List.mem_cons_self ..
    exact hn ((ord_dvd h (fl_mem.mp this).2 O).mp (io_kill h a few io c))
/-- apart from a point of the greatest order: by primes -/
theorem apart {G : Type} {op : G → G → G} {e : G} {iv : G → G} (h : isAb op e iv) {I O : Nat} {x y : G} (ox : isOrd op e O x) (hI : 0 < I) (hIO : ∀ q, prm q → q ∣ I → q ∣ O) :
    (gm op e I y = e ∧ ∀ q, prm q → q ∣ I → ¬ mult op e (gm op e (O / q) x) (gm op e (I / q) y)) ↔ (isOrd op e I y ∧ ∀ k, 0 < k → k < I → ¬ mult op e x (gm op e k y)) := by
  have sx := mult_sub h ox
  constructor
  · rintro ⟨k1, k2⟩
    have key : ∀ k, 0 < k → k < I → ¬ mult op e x (gm op e k y) := fun k h0 hk m => by
      -- the common part of k and I
      have g0 : 0 < Nat.gcd k I := Nat.gcd_pos_of_pos_left I h0
      have gl : Nat.gcd k I ≤ k := Nat.gcd_le_left I h0
      obtain ⟨u, v, e1⟩ := bez_nat h0 hI
      obtain ⟨r, hr⟩ := Nat.gcd_dvd_right k I
      generalize Nat.gcd k I = g at *
      have r2 : 2 ≤ r := Classical.byContradiction (fun w => by
        have : r = 0 ∨ r = 1 := by omega
        rcases this with z | z
        · rw [z, Nat.mul_zero] at hr; omega
        · rw [z, Nat.mul_one] at hr; omega)
      obtain ⟨q, hq, t, ht⟩ := prm_ex r2
      have q2 := hq.1
      have eI : I = q * (g * t) := by rw [hr, ht]; grind
      have qI : q ∣ I := ⟨g * t, eI⟩
      have dI : I / q = g * t := by rw [eI, Nat.mul_div_cancel_left _ (by omega)]
      have mg : mult op e x (gm op e g y) := by
        have : gm op e g y = gm op e u (gm op e k y) := by
          rw [← gm_mul h, e1, gm_add h, gm_mul h, k1, gm_e h, ab_0l h]
        rw [this]; exact sub_gm sx u m
      have mI : mult op e x (gm op e (I / q) y) := by
        rw [dI, Nat.mul_comm, gm_mul h]; exact sub_gm sx t mg
      refine k2 q hq qI ?_
      obtain ⟨i, hi⟩ := mI
      obtain ⟨O', hO⟩ := hIO q hq qI
      have O0 : 0 < O' := Nat.pos_of_ne_zero (fun w => by rw [w, Nat.mul_zero] at hO; have := ox.1; omega)
      have d1 : O ∣ q * i := (ord_dvd h ox _).mp (by rw [gm_mul h, ← hi, ← gm_mul h, dI, ← eI, k1])
      rw [hO] at d1
      obtain ⟨j, hj⟩ := Nat.dvd_of_mul_dvd_mul_left (show 0 < q by omega) d1
      refine ⟨j, ?_⟩
      rw [hi, hO, Nat.mul_div_cancel_left _ (by omega), hj, Nat.mul_comm, gm_mul h]
    refine ⟨⟨hI, k1, fun i h0 hi z => key i h0 hi ⟨0, z⟩⟩, key⟩
  · rintro ⟨oy, k⟩
    refine ⟨oy.2.1, fun q hq qI m => ?_⟩
    have q2 := hq.1
    obtain ⟨I', hI'⟩ := qI
    have I0 : 0 < I' := Nat.pos_of_ne_zero (fun w => by rw [w, Nat.mul_zero] at hI'; omega)
    have dI : I / q = I' := by rw [hI', Nat.mul_div_cancel_left _ (by omega)]
    refine k (I / q) (by omega) ?_ ?_
    · rw [dI, hI']
      have := Nat.mul_le_mul_right I' q2
      omega
    · obtain ⟨j, hj⟩ := m
      exact ⟨j * (O / q), by rw [hj, gm_mul h]⟩
