theorem pow_big (n : Nat) : n < 2 ^ n := by
  induction n with
  | zero => decide
  | succ n ih => rw [Nat.pow_succ]; omega
theorem cN_pos {G : Type} {all : List G} (a : isAll all) {P : G → Prop} {x : G} (hx : P x) : 0 < cN all P := by
  have := cN_le a (P := fun z => z = x) (Q := P) (fun z hz => by rw [hz]; exact hx)
  rw [cN_e a] at this; omega
theorem kap_le {G : Type} {op : G → G → G} {e : G} {all : List G} (a : isAll all) (n : Nat) : kap op e all n ≤ all.length := by
  rw [← cN_true a]; exact cN_le a (fun _ _ => trivial)
theorem kap_1 {G : Type} {op : G → G → G} {e : G} {iv : G → G} (h : isAb op e iv) {all : List G} (a : isAll all) : kap op e all 1 = 1 := (cN_ext a (fun x => by rw [gm_1 h])).trans (cN_e a e)
/-- the two exponents of a prime -/
theorem ab_ex {G : Type} {op : G → G → G} {e : G} {iv : G → G} (h : isAb op e iv) {all : List G} (a : isAll all) {q : Nat} (hq : prm q) (few : kap op e all q < q * q * q) :
    ∃ A B : Nat, B ≤ A ∧ (∀ k, kap op e all (q ^ k) = q ^ (min k A + min k B)) ∧ (∀ k, cN all (Vq op e q k) = if k < B then q * q else if k < A then q else 1) := by
  have q2 := hq.1
  have qq : q < q * q := by have := Nat.mul_lt_mul_of_pos_left (show 1 < q by omega) (show 0 < q by omega); omega
  have r3 : ∀ k, cN all (Vq op e q k) = 1 ∨ cN all (Vq op e q k) = q ∨ cN all (Vq op e q k) = q * q := fun k => by
    have l : cN all (Vq op e q k) < q * q * q := Nat.lt_of_le_of_lt (cN_le a (fun x hx => hx.1)) few
    rcases sub_123 h a hq (Vq_sub h q k) (fun x hx => hx.1) l with z | z | z
    · exact Or.inl z.1
    · exact Or.inr (Or.inl z)
    · exact Or.inr (Or.inr z)
  have mono : ∀ k, cN all (Vq op e q (k + 1)) ≤ cN all (Vq op e q k) := fun k => cN_le a (fun x hx => Vq_mono h hx)
  have mono2 : ∀ k j, cN all (Vq op e q (k + j)) ≤ cN all (Vq op e q k) := fun k j => by
    induction j with
    | zero => exact Nat.le_refl _
    | succ j ih => exact Nat.le_trans (mono (k + j)) ih
  have k0 : kap op e all (q ^ 0) = 1 := by
    rw [Nat.pow_zero]; exact kap_1 h a
  have ex1 : ∃ k, cN all (Vq op e q k) = 1 := Classical.byContradiction (fun ne => by
    have g : ∀ k, 2 ^ k ≤ kap op e all (q ^ k) := fun k => by
      induction k with
      | zero => rw [k0]; decide
      | succ k ih =>
        rw [kap_succ h a, Nat.pow_succ]
        refine Nat.mul_le_mul ih ?_
        rcases r3 k with z | z | z
        · exact absurd ⟨k, z⟩ ne
        · omega
        · omega
    have := g all.length
    have := kap_le (op := op) (e := e) a (q ^ all.length)
    have := pow_big all.length
    omega)
  obtain ⟨k1, hk1⟩ := ex1
  obtain ⟨A, hA, lA⟩ := nat_least (p := fun k => cN all (Vq op e q k) = 1) k1 hk1
  obtain ⟨B, hB, lB⟩ := nat_least (p := fun k => cN all (Vq op e q k) ≠ q * q) A (by show cN all (Vq op e q A) ≠ q * q; rw [hA]; omega)
  have BA : B ≤ A := Nat.le_of_not_lt (fun z => by
    have : ¬ cN all (Vq op e q A) ≠ q * q := lB A z
    rw [hA] at this; omega)
  have r : ∀ k, cN all (Vq op e q k) = if k < B then q * q else if k < A then q else 1 := fun k => by
    by_cases c1 : k < B
    · rw [if_pos c1]; exact Classical.not_not.mp (lB k c1)
    · rw [if_neg c1]
      have m1 := mono2 B (k - B)
      rw [show B + (k - B) = k by omega] at m1
      by_cases c2 : k < A
      · rw [if_pos c2]
        have c3 := lA k c2
        rcases r3 k with z | z | z
        · exact absurd z c3
        · exact z
        · exfalso
          rcases r3 B with w | w | w
          · omega
          · omega
          · exact hB w
      · rw [if_neg c2]
        have m2 := mono2 A (k - A)
        rw [show A + (k - A) = k by omega, hA] at m2
        rcases r3 k with z | z | z <;> omega
  refine ⟨A, B, BA, fun k => ?_, r⟩
  induction k with
  | zero => rw [k0]; simp
  | succ k ih =>
    rw [kap_succ h a, ih, r k]
    by_cases c1 : k < B
    · rw [if_pos c1, show min (k + 1) A + min (k + 1) B = min k A + min k B + 1 + 1 by omega, Nat.pow_succ, Nat.pow_succ, Nat.mul_assoc]
    · rw [if_neg c1]
      by_cases c2 : k < A
      · rw [if_pos c2, show min (k + 1) A + min (k + 1) B = min k A + min k B + 1 by omega, Nat.pow_succ]
      · rw [if_neg c2, show min (k + 1) A + min (k + 1) B = min k A + min k B by omega, Nat.mul_one]
theorem prm_ex {n : Nat} (h : 2 ≤ n) : ∃ q, prm q ∧ q ∣ n := by
  obtain ⟨q, ⟨h1, h2⟩, h3⟩ := nat_least (p := fun d => 2 ≤ d ∧ d ∣ n) n ⟨h, Nat.dvd_refl n⟩
  refine ⟨q, ⟨h1, fun d hd => ?_⟩, h2⟩
  by_cases c : d = q
  · exact Or.inr c
  · left
    have d0 : 0 < d := Nat.pos_of_dvd_of_pos hd (by omega)
    have dl := Nat.le_of_dvd (by omega) hd
    refine Classical.byContradiction (fun ne => h3 d (by omega) ⟨by omega, Nat.dvd_trans hd h2⟩)
theorem part_ex {q : Nat} (hq : 2 ≤ q) : ∀ n : Nat, 0 < n → ∃ i m, n = q ^ i * m ∧ ¬ q ∣ m := by
  intro n
  induction n using Nat.strongRecOn with
  | ind n ih =>
    intro hn
    by_cases d : q ∣ n
    · obtain ⟨k, rfl⟩ := d
      have k0 : 0 < k := Nat.pos_of_ne_zero (fun z => by rw [z] at hn; omega)
      obtain ⟨i, m, e, nd⟩ := ih k (by have := Nat.mul_le_mul_right k hq; omega) k0
      exact ⟨i + 1, m, by rw [e, Nat.pow_succ]; grind, nd⟩
    · exact ⟨0, n, by rw [Nat.pow_zero, Nat.one_mul], d⟩
theorem pow_uniq {q : Nat} (hq : prm q) : ∀ (i j x y : Nat), ¬ q ∣ x → ¬ q ∣ y → q ^ i * x = q ^ j * y → i = j ∧ x = y
  | 0, 0, x, y, _, _, e => ⟨rfl, by rw [Nat.pow_zero, Nat.one_mul, Nat.one_mul] at e; exact e⟩
  | 0, j + 1, x, y, hx, _, e => absurd ⟨q ^ j * y, by rw [Nat.pow_zero, Nat.one_mul] at e; rw [e, Nat.pow_succ]; grind⟩ hx
  | i + 1, 0, x, y, _, hy, e => absurd ⟨q ^ i * x, by rw [Nat.pow_zero, Nat.one_mul] at e; rw [← e, Nat.pow_succ]; grind⟩ hy
  | i + 1, j + 1, x, y, hx, hy, e => by
    have q0 : 0 < q := by have := hq.1; omega
    have := pow_uniq hq i j x y hx hy (Nat.eq_of_mul_eq_mul_left q0 (by rw [Nat.pow_succ, Nat.pow_succ] at e; rw [show q * (q ^ i * x) = q ^ i * q * x by grind, e]; grind))
    exact ⟨by omega, this.2⟩
theorem prm_pow {q q' : Nat} (hq : prm q) (hq' : prm q') (ne : q ≠ q') (i : Nat) : ¬ q ∣ q' ^ i := by
  induction i with
  | zero => rw [Nat.pow_zero]; intro d; have := Nat.le_of_dvd (by omega) d; have := hq.1; omega
  | succ i ih =>
    rw [Nat.pow_succ]
    intro d
    rcases prm_mul hq d with z | z
    · exact ih z
    · rcases hq'.2 q z with w | w
      · have := hq.1; omega
      · exact ne w
theorem kap_only {G : Type} {op : G → G → G} {e : G} {iv : G → G} (h : isAb op e iv) {all : List G} (a : isAll all) (few : ∀ q, prm q → kap op e all q < q * q * q) {q : Nat} (hq : prm q) : ∀ m : Nat, 0 < m → ¬ q ∣ m → ¬ q ∣ kap op e all m := by
  intro m
  induction m using Nat.strongRecOn with
  | ind m ih =>
    intro m0 nd
    by_cases m1 : m = 1
    · have : kap op e all m = 1 := by
        rw [m1]; exact kap_1 h a
      rw [this]; intro d; have := Nat.le_of_dvd (by omega) d; have := hq.1; omega
    · obtain ⟨r, hr, dr⟩ := prm_ex (n := m) (by omega)
      obtain ⟨i, m', em, ndm⟩ := part_ex hr.1 m m0
      have m0' : 0 < m' := Nat.pos_of_ne_zero (fun z => by rw [z, Nat.mul_zero] at em; omega)
      have i0 : 0 < i := Nat.pos_of_ne_zero (fun z => by rw [z, Nat.pow_zero, Nat.one_mul] at em; rw [em] at dr; exact ndm dr)
      have ne : q ≠ r := fun z => nd (by rw [z]; exact dr)
      have r0 : 0 < r ^ i := Nat.pow_pos (by have := hr.1; omega)
      have c : Nat.Coprime (r ^ i) m' := cop_pow (prm_cop hr ndm) i
      obtain ⟨A, B, -, hk, -⟩ := ab_ex h a hr (few r hr)
      have lt : m' < m := by
        have : 2 ≤ r ^ i := by
          obtain ⟨k, rfl⟩ : ∃ k, i = k + 1 := ⟨i - 1, by omega⟩
          rw [Nat.pow_succ]
          have := Nat.mul_le_mul (Nat.pow_pos (n := k) (show 0 < r by have := hr.1; omega)) hr.1
          omega
        have := Nat.mul_le_mul_right m' this
        omega
      rw [em, kap_mul h a r0 m0' c, hk i]
      intro d
      rcases prm_mul hq d with z | z
      · exact prm_pow hq hr ne _ z
      · exact ih m' lt m0' (fun w => nd (by rw [em]; exact Nat.dvd_trans w ⟨r ^ i, Nat.mul_comm _ _⟩)) z
/-- all of the prime q: how many, the exponents -/
theorem syl {G : Type} {op : G → G → G} {e : G} {iv : G → G} (h : isAb op e iv) {all : List G} (a : isAll all) (few : ∀ q, prm q → kap op e all q < q * q * q) {q s m : Nat} (hq : prm q) (hN : all.length = q ^ s * m) (nd : ¬ q ∣ m) {A B : Nat} (BA : B ≤ A) (hk : ∀ k, kap op e all (q ^ k) = q ^ (min k A + min k B)) : A + B = s ∧ kap op e all (q ^ s) = q ^ s := by
  have q0 : 0 < q := by have := hq.1; omega
  have m0 : 0 < m := Nat.pos_of_ne_zero (fun z => nd (by rw [z]; exact Nat.dvd_zero q))
  have c : Nat.Coprime (q ^ s) m := cop_pow (prm_cop hq nd) s
  have kN : kap op e all (q ^ s * m) = q ^ s * m := by
    rw [← hN, ← cN_true a]
    exact cN_ext a (fun x => ⟨fun _ => trivial, fun _ => by rw [cN_true a]; exact lagrange h a x⟩)
  rw [kap_mul h a (Nat.pow_pos q0) m0 c] at kN
  have k1 := hk s
  rw [k1] at kN
  have u := (pow_uniq hq _ _ _ _ (kap_only h a few hq m m0 nd) nd kN).1
  refine ⟨?_, by rw [k1, u]⟩
  -- beyond s there is nothing more
  have k2 : kap op e all (q ^ (s + A)) = kap op e all (q ^ s) := by
    refine cN_ext a (fun x => ⟨fun z => ?_, fun z => gm_dvd h ⟨q ^ A, by rw [Nat.pow_add]⟩ z⟩)
    obtain ⟨o, ho⟩ := ord_ex h a x
    have d1 := (ord_dvd h ho _).mp z
    have d2 := ord_N h a ho
    rw [hN] at d2
    have c2 : Nat.Coprime o m := Nat.Coprime.coprime_dvd_left d1 (cop_pow (prm_cop hq nd) _)
    exact (ord_dvd h ho _).mpr (Nat.Coprime.dvd_of_dvd_mul_right c2 d2)
  rw [hk (s + A), k1, show min (s + A) A = A by omega, u] at k2
  have inj : ∀ i j, q ^ i = q ^ j → i = j := fun i j z => (pow_uniq hq i j 1 1 (fun d => by have := Nat.le_of_dvd (by omega) d; have := hq.1; omega) (fun d => by have := Nat.le_of_dvd (by omega) d; have := hq.1; omega) (by rw [Nat.mul_one, Nat.mul_one]; exact z)).1
  have := inj _ _ k2
  omega
