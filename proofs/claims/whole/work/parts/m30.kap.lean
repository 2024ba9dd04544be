/-! numbers -/
theorem bez_int (a b : Nat) : ∃ x y : Int, x * a + y * b = (Nat.gcd a b : Nat) := by
  refine Nat.gcd.induction (P := fun a b => ∃ x y : Int, x * a + y * b = (Nat.gcd a b : Nat)) a b (fun n => ⟨0, 1, by simp⟩) (fun m n hm ih => ?_)
  obtain ⟨x, y, e⟩ := ih
  refine ⟨y - x * (n / m : Nat), x, ?_⟩
  rw [Nat.gcd_rec, ← e]
  have := Nat.div_add_mod n m
  have h2 : (n : Int) = m * (n / m : Nat) + (n % m : Nat) := by rw [← Int.natCast_mul, ← Int.natCast_add, this]
  rw [h2]
  generalize ((n / m : Nat) : Int) = q
  generalize ((n % m : Nat) : Int) = r
  grind
theorem bez_nat {a b : Nat} (ha : 0 < a) (hb : 0 < b) : ∃ u v : Nat, u * a = v * b + Nat.gcd a b := by
  obtain ⟨x, y, e⟩ := bez_int a b
  refine ⟨(x + (x.natAbs + y.natAbs) * b).toNat, ((x.natAbs + y.natAbs) * a - y).toNat, ?_⟩
  have b1 : (1 : Int) ≤ b := by omega
  have a1 : (1 : Int) ≤ a := by omega
  have h1 : (0 : Int) ≤ x + (x.natAbs + y.natAbs) * b := by
    have : ((x.natAbs + y.natAbs : Int)) * 1 ≤ (x.natAbs + y.natAbs) * b := Int.mul_le_mul_of_nonneg_left b1 (by omega)
    omega
  have h2 : (0 : Int) ≤ (x.natAbs + y.natAbs) * a - y := by
    have : ((x.natAbs + y.natAbs : Int)) * 1 ≤ (x.natAbs + y.natAbs) * a := Int.mul_le_mul_of_nonneg_left a1 (by omega)
    omega
  apply Int.ofNat.inj
  show ((_ * a : Nat) : Int) = ((_ * b + Nat.gcd a b : Nat) : Int)
  rw [Int.natCast_mul, Int.natCast_add, Int.natCast_mul, Int.toNat_of_nonneg h1, Int.toNat_of_nonneg h2, ← e]
  generalize ((x.natAbs : Int) + y.natAbs) = k
  grind
def prm (q : Nat) : Prop := 2 ≤ q ∧ ∀ d, d ∣ q → d = 1 ∨ d = q
theorem prm_cop {q k : Nat} (hq : prm q) (h : ¬ q ∣ k) : Nat.Coprime q k := by
  rcases hq.2 (Nat.gcd q k) (Nat.gcd_dvd_left q k) with z | z
  · exact z
  · exact absurd (by rw [← z]; exact Nat.gcd_dvd_right q k) h
theorem prm_mul {q x y : Nat} (hq : prm q) (h : q ∣ x * y) : q ∣ x ∨ q ∣ y := by
  by_cases k : q ∣ x
  · exact Or.inl k
  · exact Or.inr (Nat.Coprime.dvd_of_dvd_mul_left (prm_cop hq k) h)
theorem cop_pow {q k : Nat} (h : Nat.Coprime q k) (i : Nat) : Nat.Coprime (q ^ i) k := by
  induction i with
  | zero => rw [Nat.pow_zero]; exact Nat.coprime_one_left k
  | succ i ih => rw [Nat.pow_succ]; exact Nat.Coprime.mul_left ih h
/-! how many n makes nothing -/
noncomputable def kap {G : Type} (op : G → G → G) (e : G) (all : List G) (n : Nat) : Nat := cN all (fun x => gm op e n x = e)
theorem gm_1mod {G : Type} {op : G → G → G} {e : G} {iv : G → G} (h : isAb op e iv) {n k : Nat} {x : G} (z : gm op e n x = e) : gm op e (k * n + 1) x = x := by
  rw [gm_add h, gm_mul h, z, gm_e h, ab_0l h, gm_1 h]
theorem gm_dvd {G : Type} {op : G → G → G} {e : G} {iv : G → G} (h : isAb op e iv) {m n : Nat} {x : G} (d : m ∣ n) (z : gm op e m x = e) : gm op e n x = e := by
  obtain ⟨k, rfl⟩ := d
  rw [Nat.mul_comm, gm_mul h, z, gm_e h]
/-- parts without a common divisor -/
theorem crt {G : Type} {op : G → G → G} {e : G} {iv : G → G} (h : isAb op e iv) {m n : Nat} (hm : 0 < m) (hn : 0 < n) (c : Nat.Coprime m n) : ∃ u v : Nat, ∀ z, gm op e (m * n) z = e → op (gm op e (v * n) z) (gm op e (u * m) z) = z ∧ gm op e m (gm op e (v * n) z) = e ∧ gm op e n (gm op e (u * m) z) = e := by
  obtain ⟨u, w, e1⟩ := bez_nat hm hn
  rw [c] at e1
  -- u m = w n + 1: z = u m z - w n z; and - w n = (m w - w) n modulo m n
  refine ⟨u, w * (m - 1), fun z hz => ⟨?_, ?_, ?_⟩⟩
  · rw [← gm_add h, e1, show w * (m - 1) * n + (w * n + 1) = w * (m * n) + 1 by
      obtain ⟨k, rfl⟩ : ∃ k, m = k + 1 := ⟨m - 1, by omega⟩
      rw [show k + 1 - 1 = k by omega]; grind]
    exact gm_1mod h hz
  · rw [← gm_mul h, show m * (w * (m - 1) * n) = w * (m - 1) * (m * n) by grind, gm_mul h, hz, gm_e h]
  · rw [← gm_mul h, show n * (u * m) = u * (m * n) by grind, gm_mul h, hz, gm_e h]
theorem crt_uniq {G : Type} {op : G → G → G} {e : G} {iv : G → G} (h : isAb op e iv) {m n : Nat} (hm : 0 < m) (hn : 0 < n) (c : Nat.Coprime m n) {x y x' y' : G} (hx : gm op e m x = e) (hy : gm op e n y = e) (hx' : gm op e m x' = e) (hy' : gm op e n y' = e) (k : op x y = op x' y') : x = x' ∧ y = y' := by
  have key : ∀ {x x' : G} {m n : Nat} {y y' : G}, 0 < m → 0 < n → Nat.Coprime m n → gm op e m x = e → gm op e m x' = e → gm op e n y = e → gm op e n y' = e → op x y = op x' y' → x = x' := by
    intro x x' m n y y' hm hn c hx hx' hy hy' k
    obtain ⟨u, w, e1⟩ := bez_nat hn hm
    rw [show Nat.gcd n m = 1 from Nat.Coprime.symm c] at e1
    have e2 := congrArg (gm op e (u * n)) k
    rw [gm_op h, gm_op h, gm_mul h u n y, hy, gm_mul h u n y', hy', gm_e h, h.2.2.1, h.2.2.1, e1, gm_1mod h hx, gm_1mod h hx'] at e2
    exact e2
  refine ⟨key hm hn c hx hx' hy hy' k, key hn hm (Nat.Coprime.symm c) hy hy' hx hx' (by rw [h.2.1 y x, h.2.1 y' x']; exact k)⟩
theorem kap_mul {G : Type} {op : G → G → G} {e : G} {iv : G → G} (h : isAb op e iv) {all : List G} (a : isAll all) {m n : Nat} (hm : 0 < m) (hn : 0 < n) (c : Nat.Coprime m n) : kap op e all (m * n) = kap op e all m * kap op e all n := by
  obtain ⟨u, v, hc⟩ := crt h hm hn c
  refine cN_prod a op (fun x y hx hy => ?_) (fun z hz => ⟨_, _, (hc z hz).2.1, (hc z hz).2.2, (hc z hz).1⟩) (fun x y x' y' h1 h2 h3 h4 k => crt_uniq h hm hn c h1 h2 h3 h4 k)
  rw [gm_op h, gm_dvd h ⟨n, rfl⟩ hx, gm_dvd h ⟨m, Nat.mul_comm m n⟩ hy, h.2.2.1]
/-- orders of parts multiply -/
theorem ord_op {G : Type} {op : G → G → G} {e : G} {iv : G → G} (h : isAb op e iv) {m n : Nat} (c : Nat.Coprime m n) {x y : G} (hx : isOrd op e m x) (hy : isOrd op e n y) : isOrd op e (m * n) (op x y) := by
  refine ord_of h (Nat.mul_pos hx.1 hy.1) (fun k => ?_)
  rw [gm_op h]
  constructor
  · intro z
    have u1 := crt_uniq h hx.1 hy.1 c (x := gm op e k x) (y := gm op e k y) (x' := e) (y' := e) (by rw [← gm_mul h, Nat.mul_comm, gm_mul h, hx.2.1, gm_e h]) (by rw [← gm_mul h, Nat.mul_comm, gm_mul h, hy.2.1, gm_e h]) (gm_e h m) (gm_e h n) (by rw [z, h.2.2.1])
    exact Nat.Coprime.mul_dvd_of_dvd_of_dvd c ((ord_dvd h hx k).mp u1.1) ((ord_dvd h hy k).mp u1.2)
  · intro d
    rw [(ord_dvd h hx k).mpr (Nat.dvd_trans ⟨n, rfl⟩ d), (ord_dvd h hy k).mpr (Nat.dvd_trans ⟨m, Nat.mul_comm m n⟩ d), h.2.2.1]
theorem ord_mul {G : Type} {op : G → G → G} {e : G} {iv : G → G} (h : isAb op e iv) {m n : Nat} {x : G} (hn : 0 < n) (o : isOrd op e (m * n) x) : isOrd op e n (gm op e m x) := by
  have hm : 0 < m := Nat.pos_of_ne_zero (fun z => by have := o.1; rw [z, Nat.zero_mul] at this; omega)
  refine ord_of h hn (fun k => ?_)
  rw [← gm_mul h, ord_dvd h o, Nat.mul_comm k m]
  exact ⟨fun d => Nat.dvd_of_mul_dvd_mul_left hm d, fun d => Nat.mul_dvd_mul_left m d⟩
noncomputable def wrd {G : Type} (op : G → G → G) (e : G) (all : List G) (n : Nat) : Nat := cN all (fun x => isOrd op e n x)
theorem wrd_mul {G : Type} {op : G → G → G} {e : G} {iv : G → G} (h : isAb op e iv) {all : List G} (a : isAll all) {m n : Nat} (hm : 0 < m) (hn : 0 < n) (c : Nat.Coprime m n) : wrd op e all (m * n) = wrd op e all m * wrd op e all n := by
  obtain ⟨u, v, hc⟩ := crt h hm hn c
  refine cN_prod a op (fun x y hx hy => ord_op h c hx hy) (fun z hz => ?_) (fun x y x' y' h1 h2 h3 h4 k => crt_uniq h hm hn c h1.2.1 h2.2.1 h3.2.1 h4.2.1 k)
  obtain ⟨c1, c2, c3⟩ := hc z hz.2.1
  obtain ⟨o1, q1⟩ := ord_ex h a (gm op e (v * n) z)
  obtain ⟨o2, q2⟩ := ord_ex h a (gm op e (u * m) z)
  have d1 := (ord_dvd h q1 m).mp c2
  have d2 := (ord_dvd h q2 n).mp c3
  have c4 : Nat.Coprime o1 o2 := Nat.Coprime.coprime_dvd_left d1 (Nat.Coprime.coprime_dvd_right d2 c)
  have q3 := ord_op h c4 q1 q2
  rw [c1] at q3
  have e1 := ord_uniq h hz q3
  -- m n = o1 o2, o1 | m, o2 | n
  obtain ⟨k1, hk1⟩ := d1
  obtain ⟨k2, hk2⟩ := d2
  have kk : k1 * k2 = 1 := by
    have : o1 * o2 * (k1 * k2) = o1 * o2 * 1 := by rw [Nat.mul_one, ← e1, hk1, hk2]; grind
    exact Nat.eq_of_mul_eq_mul_left (Nat.mul_pos q1.1 q2.1) this
  have k11 : k1 = 1 := Nat.eq_one_of_mul_eq_one_right kk
  have k21 : k2 = 1 := Nat.eq_one_of_mul_eq_one_left kk
  rw [k11, Nat.mul_one] at hk1
  rw [k21, Nat.mul_one] at hk2
  exact ⟨_, _, by rw [hk1]; exact q1, by rw [hk2]; exact q2, c1⟩
/-- fibres -/
theorem fib {G : Type} {op : G → G → G} {e : G} {iv : G → G} (h : isAb op e iv) {all : List G} (a : isAll all) (m : Nat) (T : G → Prop) : cN all (fun x => T (gm op e m x)) = kap op e all m * cN all (fun v => T v ∧ ∃ z, gm op e m z = v) := by
  let sec : G → G := fun v => @Classical.epsilon G ⟨e⟩ (fun z => gm op e m z = v)
  have hs : ∀ x, gm op e m (sec (gm op e m x)) = gm op e m x := fun x => Classical.epsilon_spec (p := fun z => gm op e m z = gm op e m x) ⟨x, rfl⟩
  have e1 : cN all (fun x => T (gm op e m x)) = kap op e all m * cN all (fun z => T (gm op e m z) ∧ z = sec (gm op e m z)) := by
    refine cN_prod a op (fun x y hx hy => ?_) (fun z hz => ⟨op z (iv (sec (gm op e m z))), sec (gm op e m z), ?_, ⟨?_, ?_⟩, ?_⟩) (fun x y x' y' h1 h2 h3 h4 k => ?_)
    · rw [gm_op h, hx, ab_0l h]; exact hy.1
    · rw [gm_op h, gm_iv h, hs, h.2.2.2]
    · rw [hs]; exact hz
    · rw [hs]
    · exact ab_sub' h z _
    · have k2 := congrArg (gm op e m) k
      rw [gm_op h, gm_op h, h1, h3, ab_0l h, ab_0l h] at k2
      have yy : y = y' := by rw [h2.2, h4.2, k2]
      rw [yy, h.2.1 x, h.2.1 x'] at k
      exact ⟨ab_canc h k, yy⟩
  rw [e1]
  congr 1
  refine Nat.le_antisymm ?_ ?_
  · exact cN_inj a a (fun z => gm op e m z) (fun z hz => ⟨hz.1, z, rfl⟩) (fun x y hx hy k => by rw [hx.2, hy.2]; exact congrArg sec k)
  · exact cN_inj a a sec (fun v hv => by
      obtain ⟨h1, z, rfl⟩ := hv
      exact ⟨by rw [hs]; exact h1, by rw [hs]⟩) (fun x y hx hy k => by
      obtain ⟨-, z, rfl⟩ := hx
      obtain ⟨-, w, rfl⟩ := hy
      rw [← hs z, ← hs w, k])
