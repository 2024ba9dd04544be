/-! orders modulo a prime, a generator -/
def og (P : Nat) (a : Nat) (k : Nat) : Prop := (P : Int) ∣ (a : Int) ^ k - 1
theorem og_0 (P a : Nat) : og P a 0 := by unfold og; rw [Int.pow_zero, Int.sub_self]; exact Int.dvd_zero _
theorem og_add {P a k l : Nat} (h : og P a k) (g : og P a l) : og P a (k + l) := by
  unfold og at *
  rw [Int.pow_add, show (a : Int) ^ k * (a : Int) ^ l - 1 = (a : Int) ^ l * ((a : Int) ^ k - 1) + ((a : Int) ^ l - 1) by grind]
  exact Int.dvd_add (hs_mr _ h) g
theorem og_cancel {P a k l : Nat} (h : og P a (k + l)) (g : og P a k) : og P a l := by
  unfold og at *
  have h2 := hs_mr ((a : Int) ^ l) g
  have := Int.dvd_sub h h2
  rwa [Int.pow_add, show (a : Int) ^ k * (a : Int) ^ l - 1 - (a : Int) ^ l * ((a : Int) ^ k - 1) = (a : Int) ^ l - 1 by grind] at this
theorem og_mul {P a k : Nat} (h : og P a k) : ∀ n : Nat, og P a (k * n)
  | 0 => og_0 P a
  | n + 1 => by rw [Nat.mul_succ]; exact og_add (og_mul h n) h
theorem og_pow {P a m n : Nat} : og P (a ^ m) n ↔ og P a (m * n) := by
  unfold og; rw [Int.natCast_pow, ← Int.pow_mul]
def isO (P a k : Nat) : Prop := 0 < k ∧ og P a k ∧ ∀ j, og P a j → k ∣ j
theorem least_ex {p : Nat → Prop} : ∀ n : Nat, p n → ∃ k, p k ∧ ∀ j, j < k → ¬ p j := by
  intro n
  induction n using Nat.strongRecOn with
  | ind n ih =>
    intro h
    by_cases c : ∃ j, j < n ∧ p j
    · obtain ⟨j, hj, hp⟩ := c; exact ih j hj hp
    · exact ⟨n, h, fun j hj hp => c ⟨j, hj, hp⟩⟩
theorem isO_ex {P a : Nat} (hp : isp P) (h2 : 2 ≤ P) (ha : ¬ (P : Int) ∣ (a : Int)) : ∃ k, isO P a k := by
  obtain ⟨k, ⟨hk0, hk⟩, hmin⟩ := least_ex (p := fun k => 0 < k ∧ og P a k) (P - 1) ⟨by omega, pr_fermat1 hp h2 a ha⟩
  refine ⟨k, hk0, hk, fun j hj => ?_⟩
  have h1 := Nat.div_add_mod j k
  have h3 : og P a (j % k) := og_cancel (k := k * (j / k)) (by rw [h1]; exact hj) (og_mul hk _)
  refine Nat.dvd_of_mod_eq_zero (Classical.byContradiction fun hne => ?_)
  exact hmin (j % k) (Nat.mod_lt j hk0) ⟨Nat.pos_of_ne_zero hne, h3⟩
theorem isO_pow {P a m n : Nat} (hm : 0 < m) (h : isO P a (m * n)) : isO P (a ^ m) n := by
  refine ⟨Nat.pos_of_ne_zero fun e => ?_, og_pow.mpr h.2.1, fun j hj => ?_⟩
  · have := h.1; rw [e, Nat.mul_zero] at this; omega
  · exact Nat.dvd_of_mul_dvd_mul_left hm (h.2.2 _ (og_pow.mp hj))
theorem og_prod {P a b k : Nat} (h : og P a k) (g : og P b k) : og P (a * b) k := by
  unfold og at *
  rw [Int.natCast_mul, Int.mul_pow, show (a : Int) ^ k * (b : Int) ^ k - 1 = (b : Int) ^ k * ((a : Int) ^ k - 1) + ((b : Int) ^ k - 1) by grind]
  exact Int.dvd_add (hs_mr _ h) g
theorem og_prod_l {P a b k : Nat} (h : og P (a * b) k) (g : og P a k) : og P b k := by
  unfold og at *
  have h2 := hs_mr ((b : Int) ^ k) g
  have := Int.dvd_sub h h2
  rwa [Int.natCast_mul, Int.mul_pow, show (a : Int) ^ k * (b : Int) ^ k - 1 - (b : Int) ^ k * ((a : Int) ^ k - 1) = (b : Int) ^ k - 1 by grind] at this
theorem isO_mul {P a b m n : Nat} (h : isO P a m) (g : isO P b n) (hc : Nat.Coprime m n) : isO P (a * b) (m * n) := by
  refine ⟨Nat.mul_pos h.1 g.1, og_prod (og_mul h.2.1 n) (by rw [Nat.mul_comm]; exact og_mul g.2.1 m), fun j hj => ?_⟩
  have h1 : n ∣ j * m := g.2.2 _ (og_prod_l (og_mul hj m) (by rw [Nat.mul_comm]; exact og_mul h.2.1 j))
  have h2 : m ∣ j * n := h.2.2 _ (og_prod_l (a := b) (by rw [Nat.mul_comm b a]; exact og_mul hj n) (by rw [Nat.mul_comm]; exact og_mul g.2.1 j))
  exact Nat.Coprime.mul_dvd_of_dvd_of_dvd hc (hc.dvd_of_dvd_mul_right h2) (hc.symm.dvd_of_dvd_mul_right h1)
theorem pf_ex {n : Nat} (h : 2 ≤ n) : ∃ q, 2 ≤ q ∧ q ∣ n ∧ isp q := by
  obtain ⟨q, ⟨h1, h2⟩, hmin⟩ := least_ex (p := fun q => 2 ≤ q ∧ q ∣ n) n ⟨h, Nat.dvd_refl n⟩
  refine ⟨q, h1, h2, fun d hd hdq hr => ?_⟩
  have hdd : d ∣ q := Nat.dvd_of_mod_eq_zero hr
  have : d < q := by
    have : d * 2 ≤ d * d := Nat.mul_le_mul_left d hd
    omega
  exact hmin d this ⟨hd, Nat.dvd_trans hdd h2⟩
theorem pf_part {q : Nat} (hq : 2 ≤ q) : ∀ e : Nat, 0 < e → ∃ i e', e = q ^ i * e' ∧ ¬ q ∣ e' := by
  intro e
  induction e using Nat.strongRecOn with
  | ind e ih =>
    intro he
    by_cases c : q ∣ e
    · obtain ⟨d, hd⟩ := c
      have hd0 : 0 < d := Nat.pos_of_ne_zero fun h => by rw [h, Nat.mul_zero] at hd; omega
      obtain ⟨i, e', h1, h2⟩ := ih d (by rw [hd]; have := Nat.mul_le_mul_right d hq; omega) hd0
      exact ⟨i + 1, e', by rw [hd, h1, Nat.pow_succ, Nat.mul_comm (q ^ i) q, Nat.mul_assoc], h2⟩
    · exact ⟨0, e, by rw [Nat.pow_zero, Nat.one_mul], c⟩
theorem pf_big {e f : Nat} (he : 0 < e) (hf : 0 < f) (h : ¬ f ∣ e) : ∃ q i j e' f', 2 ≤ q ∧ isp q ∧ e = q ^ i * e' ∧ f = q ^ j * f' ∧ ¬ q ∣ e' ∧ i < j := by
  have hd0 : 0 < Nat.gcd e f := Nat.gcd_pos_of_pos_left f he
  obtain ⟨c, hc⟩ := Nat.gcd_dvd_right e f
  have hc2 : 2 ≤ c := by
    refine Nat.lt_of_not_le fun hle => h ?_
    have hc0 : c ≠ 0 := fun e0 => by rw [e0, Nat.mul_zero] at hc; omega
    have : c = 1 := by omega
    rw [this, Nat.mul_one] at hc
    exact hc ▸ Nat.gcd_dvd_left e f
  obtain ⟨q, hq2, hqc, hqp⟩ := pf_ex hc2
  obtain ⟨i, e', h1, h2⟩ := pf_part hq2 e he
  obtain ⟨j, f', h3, h4⟩ := pf_part hq2 f hf
  refine ⟨q, i, j, e', f', hq2, hqp, h1, h3, h2, Nat.lt_of_not_le fun hle => h4 ?_⟩
  have h5 : q ^ j ∣ Nat.gcd e f := Nat.dvd_gcd (by rw [h1]; exact Nat.dvd_trans (Nat.pow_dvd_pow q hle) (Nat.dvd_mul_right _ _)) (by rw [h3]; exact Nat.dvd_mul_right _ _)
  have h6 : q ^ j * q ∣ q ^ j * f' := by
    have : q ^ j * q ∣ Nat.gcd e f * c := Nat.mul_dvd_mul h5 hqc
    rw [← hc] at this; rwa [h3] at this
  exact Nat.dvd_of_mul_dvd_mul_left (Nat.pow_pos (by omega)) h6
theorem pr_nd {P : Nat} (hp : isp P) (h2 : 2 ≤ P) {a m : Nat} (ha : ¬ (P : Int) ∣ (a : Int)) : ¬ (P : Int) ∣ ((a ^ m : Nat) : Int) := by
  intro h
  rw [Int.natCast_pow] at h
  induction m with
  | zero => rw [Int.pow_zero] at h; exact pr_small (p := P) 1 (by omega) (by omega) h
  | succ m ih =>
    rw [Int.pow_succ] at h
    rcases pr_E hp h2 _ _ h with c | c
    · exact ih c
    · exact ha c
/-- the zeros of X^k - 1 are at most k -/
theorem og_count {P : Nat} (hp : isp P) (h2 : 2 ≤ P) {k : Nat} (hk : 0 < k) (h : ∀ a, 0 < a → a < P → og P a k) : P ≤ k + 1 := by
  have hz : ∀ r ∈ ((List.range' 1 (P - 1)).map (fun x : Nat => (x : Int))), hs_V (P : Int) r 1 (fun n => 1 * hs_d k n + (-1) * hs_d 0 n) := fun r hr i hi => by
    obtain ⟨x, hx, rfl⟩ := List.mem_map.mp hr
    obtain ⟨x1, x2⟩ := List.mem_range'_1.mp hx
    obtain rfl : i = 0 := by omega
    have h0 := hs_v_Yk (P := (P : Int)) (r := (x : Int)) 0
    rw [Int.pow_zero] at h0
    have hK := hs_v_K h0 k
    have hK : hs_v (P : Int) (hs_K k (hs_d 0)) (x : Int) ((x : Int) ^ k * 1) := hK
    rw [hs_K_d, Nat.zero_add] at hK
    have hL := hs_v_lin 1 (-1) hK h0
    refine hs_v_eq ?_ hL
    have := h x (by omega) (by omega)
    unfold og at this
    rwa [show 1 * ((x : Int) ^ k * 1) + -1 * 1 - 0 = (x : Int) ^ k - 1 by omega]
  have hpw : ((List.range' 1 (P - 1)).map (fun x : Nat => (x : Int))).Pairwise (fun x y => ¬ (P : Int) ∣ y - x) := by
    rw [List.pairwise_map]
    refine List.Pairwise.imp_of_mem ?_ (List.pairwise_lt_range' (s := 1) (n := P - 1))
    intro x y hx hy hxy hd
    obtain ⟨x1, x2⟩ := List.mem_range'_1.mp hx
    obtain ⟨y1, y2⟩ := List.mem_range'_1.mp hy
    rw [show ((y : Int) - (x : Int)) = ((y - x : Nat) : Int) by omega] at hd
    exact pr_small (p := P) (y - x) (by omega) (by omega) hd
  have := hs_count (pr_E hp h2) (pr_small (p := P)) 1 (by omega) _ (k + 1) (fun n => 1 * hs_d k n + (-1) * hs_d 0 n) (fun n hn => by
    show 1 * (if n = k then (1 : Int) else 0) + (-1) * (if n = 0 then (1 : Int) else 0) = 0
    rw [if_neg (by omega), if_neg (by omega)]; rfl) ⟨k, by
    show ¬ (P : Int) ∣ 1 * (if k = k then (1 : Int) else 0) + (-1) * (if k = 0 then (1 : Int) else 0)
    rw [if_pos rfl, if_neg (by omega)]
    exact pr_small (p := P) 1 (by omega) (by omega)⟩ hz hpw
  rw [List.length_map, List.length_range'] at this; omega
theorem og_mod {P a k : Nat} : og P (a % P) k ↔ og P a k := by
  have h : (P : Int) ∣ (a : Int) ^ k - ((a % P : Nat) : Int) ^ k := hs_powmod (by rw [Int.natCast_emod]; exact Int.dvd_self_sub_emod) k
  unfold og
  constructor
  · intro g
    have := Int.dvd_add h g
    rwa [show (a : Int) ^ k - ((a % P : Nat) : Int) ^ k + (((a % P : Nat) : Int) ^ k - 1) = (a : Int) ^ k - 1 by omega] at this
  · intro g
    have := Int.dvd_sub g h
    rwa [show (a : Int) ^ k - 1 - ((a : Int) ^ k - ((a % P : Nat) : Int) ^ k) = ((a % P : Nat) : Int) ^ k - 1 by omega] at this
/-- there is a generator -/
theorem gen_ex {P : Nat} (hp : isp P) (h2 : 3 ≤ P) : ∃ g, 1 < g ∧ g < P ∧ isO P g (P - 1) := by
  have hle : ∀ a k : Nat, ¬ (P : Int) ∣ (a : Int) → isO P a k → k ∣ P - 1 := fun a k ha h => h.2.2 _ (pr_fermat1 hp (by omega) a ha)
  obtain ⟨d, ⟨e, a, ha, hO, hde⟩, hmin⟩ := least_ex (p := fun d => ∃ e a : Nat, ¬ (P : Int) ∣ (a : Int) ∧ isO P a e ∧ d = P - 1 - e) (P - 1 - 1) ⟨1, 1, pr_small (p := P) 1 (by omega) (by omega), ⟨by omega, by unfold og; exact ⟨0, rfl⟩, fun j _ => Nat.one_dvd j⟩, rfl⟩
  have heP : e ≤ P - 1 := Nat.le_of_dvd (by omega) (hle a e ha hO)
  have hall : ∀ b f : Nat, ¬ (P : Int) ∣ (b : Int) → isO P b f → f ∣ e := fun b f hb hf => Classical.byContradiction fun hne => by
    obtain ⟨q, i, j, e', f', hq2, hqp, h1, h3, h4, hij⟩ := pf_big hO.1 hf.1 hne
    have hO1 := isO_pow (a := a) (m := q ^ i) (n := e') (Nat.pow_pos (by omega)) (h1 ▸ hO)
    have hf0 : 0 < f' := Nat.pos_of_ne_zero fun e0 => by have := hf.1; rw [h3, e0, Nat.mul_zero] at this; omega
    have hf1 := isO_pow (a := b) (m := f') (n := q ^ j) hf0 (by rw [Nat.mul_comm, ← h3]; exact hf)
    have hc : Nat.Coprime e' (q ^ j) := (Nat.Coprime.pow_left j (pr_cop hqp hq2 h4)).symm
    have hO2 := isO_mul hO1 hf1 hc
    have hnd : ¬ (P : Int) ∣ ((a ^ q ^ i * b ^ f' : Nat) : Int) := fun hd => by
      rw [Int.natCast_mul] at hd
      rcases pr_E hp (by omega) _ _ hd with c | c
      · exact pr_nd hp (by omega) ha c
      · exact pr_nd hp (by omega) hb c
    have hle2 := Nat.le_of_dvd (by omega) (hle _ _ hnd hO2)
    have hgt : e < e' * q ^ j := by
      have he0 : 0 < e' := hO1.1
      have : q ^ i * 2 ≤ q ^ j := Nat.le_trans (by rw [show q ^ i * 2 ≤ q ^ i * q ↔ True from ⟨fun _ => trivial, fun _ => Nat.mul_le_mul_left _ hq2⟩]; trivial) (by rw [← Nat.pow_succ]; exact Nat.pow_le_pow_right (by omega) hij)
      have h5 := Nat.mul_le_mul_left e' this
      have h6 : 0 < q ^ i := Nat.pow_pos (by omega)
      have h7 : e' * (q ^ i * 2) = e * 2 := by rw [h1, ← Nat.mul_assoc, Nat.mul_comm e' (q ^ i)]
      have := hO.1
      omega
    exact hmin (P - 1 - e' * q ^ j) (by omega) ⟨_, _, hnd, hO2, rfl⟩
  have hcount := og_count hp (by omega) hO.1 (fun b hb0 hbP => by
    have hb := pr_small (p := P) b hb0 hbP
    obtain ⟨f, hf⟩ := isO_ex hp (by omega) hb
    obtain ⟨c, hc⟩ := hall b f hb hf
    rw [hc]; exact og_mul hf.2.1 c)
  have he : e = P - 1 := by omega
  have hO' : isO P (a % P) (P - 1) := ⟨by omega, og_mod.mpr (he ▸ hO.2.1), fun j hj => he ▸ hO.2.2 j (og_mod.mp hj)⟩
  refine ⟨a % P, ?_, Nat.mod_lt a (by omega), hO'⟩
  refine Nat.lt_of_not_le fun hle1 => ?_
  have h0 : a % P ≠ 0 := fun e0 => ha (Int.ofNat_dvd.mpr (Nat.dvd_of_mod_eq_zero e0))
  have h1 : a % P = 1 := by omega
  rw [h1] at hO'
  have := Nat.le_of_dvd (by omega) (hO'.2.2 1 (by unfold og; exact ⟨0, rfl⟩))
  omega
/-- there is a number that is no square -/
theorem nosq_ex {P : Nat} (hp : isp P) (h5 : 5 ≤ P) : ∃ v, 2 ≤ v ∧ v < P ∧ ∀ r, r < P → ¬ r * r % P = v := by
  refine Classical.byContradiction fun hc => ?_
  have ho := pr_odd hp h5
  have := og_count hp (by omega) (k := (P - 1) / 2) (by omega) (fun a ha0 haP => by
    have hsq : ∃ r, r < P ∧ r * r % P = a := by
      by_cases c : a = 1
      · exact ⟨1, by omega, by rw [c]; exact Nat.mod_eq_of_lt (by omega)⟩
      · refine Classical.byContradiction fun hn => hc ⟨a, by omega, haP, fun r hr e => hn ⟨r, hr, e⟩⟩
    obtain ⟨r, hr, e⟩ := hsq
    have hr0 : ¬ (P : Int) ∣ (r : Int) := fun hd => by
      have := Nat.mod_eq_zero_of_dvd (Nat.dvd_trans (Int.ofNat_dvd.mp hd) (Nat.dvd_mul_right r r)); omega
    rw [← e, og_mod]
    unfold og
    have := pr_fermat1 hp (by omega) r hr0
    rwa [show P - 1 = 2 * ((P - 1) / 2) by omega, Int.pow_mul, show (r : Int) ^ 2 = ((r * r : Nat) : Int) by rw [Int.natCast_mul]; grind] at this)
  omega
