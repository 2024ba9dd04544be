/-! how many numbers have the n-th power 1 -/
theorem pw_can {n p i j : Nat} (n2 : 2 ≤ n) (c : Nat.Coprime p n) (hij : i < j) (e : p ^ i % n = p ^ j % n) : p ^ (j - i) % n = 1 := by
  have e1 : p ^ j = p ^ i * p ^ (j - i) := by rw [← Nat.pow_add]; congr 1; omega
  have pos : 0 < p := Nat.pos_of_ne_zero fun z => by
    rw [z, Nat.coprime_zero_left] at c; omega
  have p1 : 1 ≤ p ^ (j - i) := Nat.pow_pos pos
  have d : n ∣ p ^ i * (p ^ (j - i) - 1) := by
    rw [Nat.mul_sub, Nat.mul_one, ← e1]
    exact Nat.dvd_of_mod_eq_zero (Nat.sub_mod_eq_zero_of_mod_eq (Eq.symm e))
  have d2 := Nat.Coprime.dvd_of_dvd_mul_left (Nat.Coprime.symm (cop_pow c i)) d
  obtain ⟨t, ht⟩ := d2
  rw [show p ^ (j - i) = n * t + 1 by omega, Nat.mul_add_mod, Nat.mod_eq_of_lt n2]
theorem og_iff {P a k : Nat} (h2 : 2 ≤ P) : og P a k ↔ a ^ k % P = 1 := by
  unfold og
  rw [← Int.natCast_pow]
  constructor
  · rintro ⟨t, ht⟩
    have : ((a ^ k % P : Nat) : Int) = 1 := by
      rw [Int.natCast_emod, show ((a ^ k : Nat) : Int) = 1 + P * t by omega, Int.add_mul_emod_self_left]
      exact Int.emod_eq_of_lt (by omega) (by omega)
    omega
  · intro e
    refine ⟨((a ^ k / P : Nat) : Int), ?_⟩
    have := Nat.div_add_mod (a ^ k) P
    rw [e] at this
    rw [← Int.natCast_mul]; omega
theorem cyc {P : Nat} (hp : isp P) (h5 : 5 ≤ P) : ∃ g, Nat.Coprime g P ∧ (∀ j, g ^ j % P = 1 ↔ (P - 1) ∣ j) ∧ ∀ u, 0 < u → u < P → ∃ i, i < P - 1 ∧ u = g ^ i % P := by
  obtain ⟨g, g1, gP, h⟩ := gen_ex hp (by omega)
  have c := cop_lt hp (by omega) (show 0 < g by omega) gP
  have o : ∀ j, g ^ j % P = 1 ↔ (P - 1) ∣ j := fun j => by
    rw [← og_iff (by omega)]
    refine ⟨h.2.2 j, ?_⟩
    rintro ⟨t, rfl⟩
    exact og_mul h.2.1 t
  refine ⟨g, c, o, fun u u0 uP => ?_⟩
  refine Classical.byContradiction fun no => ?_
  have nd : ((List.range (P - 1)).map (fun i => g ^ i % P)).Nodup := by
    unfold List.Nodup
    rw [List.pairwise_map]
    refine List.Pairwise.imp_of_mem (fun {i j} hi hj hij e => ?_) List.pairwise_lt_range
    have jn := List.mem_range.mp hj
    have hij' : i < j := hij
    have := Nat.le_of_dvd (by omega) ((o _).mp (pw_can (by omega) c hij' e))
    omega
  have nd2 : (u :: (List.range (P - 1)).map (fun i => g ^ i % P)).Nodup := List.nodup_cons.mpr ⟨fun w => by
    obtain ⟨i, hi, e⟩ := List.mem_map.mp w
    exact no ⟨i, List.mem_range.mp hi, e.symm⟩, nd⟩
  have := nd_le _ ((List.range (P - 1)).map (fun i => i + 1)) nd2 (fun x hx => by
    refine List.mem_map.mpr ?_
    rcases List.mem_cons.mp hx with e | w
    · exact ⟨u - 1, List.mem_range.mpr (by omega), by omega⟩
    · obtain ⟨i, hi, rfl⟩ := List.mem_map.mp w
      have ne : g ^ i % P ≠ 0 := fun z => by
        have d := Nat.dvd_of_mod_eq_zero z
        have := Nat.Coprime.eq_one_of_dvd (Nat.Coprime.symm (cop_pow c i)) d
        omega
      have l : g ^ i % P < P := Nat.mod_lt _ (by omega)
      exact ⟨g ^ i % P - 1, List.mem_range.mpr (by omega), by omega⟩)
  rw [List.length_cons, List.length_map, List.length_map, List.length_range] at this
  omega
theorem cntpow {P n : Nat} (hp : isp P) (h5 : 5 ≤ P) (n0 : 0 < n) : ((List.range P).filter (fun u => decide (u ^ n % P = 1))).length = Nat.gcd n (P - 1) := by
  obtain ⟨g, c, o, su⟩ := cyc hp h5
  obtain ⟨n', hn'⟩ := Nat.gcd_dvd_left n (P - 1)
  obtain ⟨m', hm'⟩ := Nat.gcd_dvd_right n (P - 1)
  have d0 : 0 < Nat.gcd n (P - 1) := Nat.gcd_pos_of_pos_left _ n0
  have cp : Nat.Coprime m' n' := by
    have := Nat.coprime_div_gcd_div_gcd d0
    rw [show n / Nat.gcd n (P - 1) = n' from Nat.div_eq_of_eq_mul_right d0 hn', show (P - 1) / Nat.gcd n (P - 1) = m' from Nat.div_eq_of_eq_mul_right d0 hm'] at this
    exact Nat.Coprime.symm this
  generalize Nat.gcd n (P - 1) = d at *
  have m0 : 0 < m' := Nat.pos_of_ne_zero fun z => by rw [z, Nat.mul_zero] at hm'; omega
  have key : ∀ i, (P - 1) ∣ i * n ↔ m' ∣ i := fun i => by
    rw [hm', hn', show i * (d * n') = d * (i * n') by rw [Nat.mul_left_comm]]
    rw [Nat.mul_dvd_mul_iff_left d0]
    exact ⟨fun z => Nat.Coprime.dvd_of_dvd_mul_right cp z, fun z => Nat.dvd_trans z (Nat.dvd_mul_right _ _)⟩
  have pw : ∀ i, (g ^ i % P) ^ n % P = 1 ↔ m' ∣ i := fun i => by
    rw [pw_m, ← Nat.pow_mul, o, key]
  refine Nat.le_antisymm ?_ ?_
  · have := nd_le _ ((List.range d).map (fun j => g ^ (m' * j) % P)) (show ((List.range P).filter (fun u => decide (u ^ n % P = 1))).Nodup from List.Pairwise.filter _ List.nodup_range) (fun u hu => by
      obtain ⟨h1, h2⟩ := List.mem_filter.mp hu
      have uP := List.mem_range.mp h1
      have e := of_decide_eq_true h2
      have u0 : 0 < u := Nat.pos_of_ne_zero fun z => by
        rw [z, Nat.zero_pow n0, Nat.zero_mod] at e; omega
      obtain ⟨i, hi, rfl⟩ := su u u0 uP
      obtain ⟨j, rfl⟩ := (pw i).mp e
      refine List.mem_map.mpr ⟨j, List.mem_range.mpr (Nat.lt_of_not_le fun w => ?_), rfl⟩
      have : m' * d ≤ m' * j := Nat.mul_le_mul_left m' w
      rw [Nat.mul_comm m' d] at this
      omega)
    rwa [List.length_map, List.length_range] at this
  · have nd : ((List.range d).map (fun j => g ^ (m' * j) % P)).Nodup := by
      unfold List.Nodup
      rw [List.pairwise_map]
      refine List.Pairwise.imp_of_mem (fun {i j} hi hj hij e => ?_) List.pairwise_lt_range
      have jn := List.mem_range.mp hj
      have hij' : i < j := hij
      have l1 : m' * i < m' * j := Nat.mul_lt_mul_of_pos_left hij' m0
      have l2 : m' * j < m' * d := Nat.mul_lt_mul_of_pos_left jn m0
      rw [Nat.mul_comm m' d] at l2
      have := Nat.le_of_dvd (by omega) ((o _).mp (pw_can (by omega) c l1 e))
      omega
    have := nd_le _ ((List.range P).filter (fun u => decide (u ^ n % P = 1))) nd (fun u hu => by
      obtain ⟨j, -, rfl⟩ := List.mem_map.mp hu
      exact List.mem_filter.mpr ⟨List.mem_range.mpr (Nat.mod_lt _ (by omega)), decide_eq_true ((pw _).mpr (Nat.dvd_mul_right _ _))⟩)
    rwa [List.length_map, List.length_range] at this
