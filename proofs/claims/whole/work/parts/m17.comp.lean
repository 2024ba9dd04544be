/-- a pair that is a combination of another pair has a size that the other's divides -/
theorem comp_deg {F R : Type} [mFld F] [mRng R] {co : R → Nat → F} {K : Type} [mFld K] (h : isPol co) {φ : F → K} (hφ : isHom φ) {x s : K} (tr : ∀ u : R, ev h φ x u = 0 → u = 0) {A B : R} {m : Nat} (hA : sz h A = m + 1) (hB : sz h B ≤ m) (m0 : 0 < m) (B0 : B ≠ 0) (hc : cop A B) (hs : ev h φ x A = s * ev h φ x B)
    {A' B' : R} (hc' : cop A' B') (hl : sz h B' < sz h A') {G1 G2 : R} (g0 : ev h φ s G2 ≠ 0) (e : ev h φ x A' * ev h φ s G2 = ev h φ x B' * ev h φ s G1) : ∃ n, sz h A' = m * n + 1 := by
  have hx := ev_hom h hφ x
  have hS := ev_hom h hφ s
  have xB : ev h φ x B ≠ 0 := fun z => B0 (tr B z)
  have pwn : ∀ n : Nat, ev h φ x B ^ n ≠ 0 := fun n z => xB (Lean.Grind.Field.of_pow_eq_zero _ n z)
  -- parts without a common part
  obtain ⟨g, u, v, k1, ⟨H1, k2⟩, ⟨H2, k3⟩⟩ := po_gcd h _ G1 G2 (Nat.le_refl _)
  have gn : ev h φ s g ≠ 0 := fun z => g0 (by rw [k3, hm_mul hS, z]; grind)
  have gz : g ≠ 0 := fun z => gn (by rw [z, hm_zero hS])
  have c1 : cop H1 H2 := ⟨u, v, po_canc h gz (by rw [k2, k3] at k1; grind)⟩
  have e1 : ev h φ x A' * ev h φ s H2 = ev h φ x B' * ev h φ s H1 := by
    have t := Lean.Grind.Field.mul_inv_cancel gn
    rw [k2, k3, hm_mul hS, hm_mul hS] at e
    generalize ev h φ s g = w at *
    have : w * (ev h φ x A' * ev h φ s H2 - ev h φ x B' * ev h φ s H1) = 0 := by grind
    rcases Lean.Grind.Field.of_mul_eq_zero this with z | z
    · exact absurd z gn
    · grind
  have H20 : H2 ≠ 0 := fun z => g0 (by rw [k3, z, hm_mul hS, hm_zero hS]; grind)
  have A0 : A' ≠ 0 := fun z => by rw [z, sz_zero] at hl; omega
  -- the common size
  obtain ⟨n, hn1, hn2, hn3⟩ : ∃ n, sz h H1 ≤ n + 1 ∧ sz h H2 ≤ n + 1 ∧ (sz h H1 = n + 1 ∨ sz h H2 = n + 1) := by
    obtain ⟨d, hd⟩ := sz_pos h H20
    by_cases w : sz h H1 ≤ sz h H2
    · exact ⟨d, by omega, by omega, Or.inr hd⟩
    · exact ⟨sz h H1 - 1, by omega, by omega, Or.inl (by omega)⟩
  have E : A' * hmg h A B n H2 = B' * hmg h A B n H1 := by
    have : ev h φ x (A' * hmg h A B n H2 - B' * hmg h A B n H1) = 0 := by
      rw [hm_sub hx, hm_mul hx, hm_mul hx, hmg_ev h hφ hn2 hs, hmg_ev h hφ hn1 hs]
      generalize ev h φ x B ^ n = w
      grind
    have := tr _ this
    grind
  obtain ⟨-, f1, f2⟩ := hmg_sz h hA hB m0 n H1
  obtain ⟨-, f3, f4⟩ := hmg_sz h hA hB m0 n H2
  -- H1 is the one of full size
  have t1 : sz h H1 = n + 1 := Classical.byContradiction (fun ne => by
    have w1 := hn3.resolve_left ne
    have w2 := f3 (sz_top h w1)
    have w3 := f2 (sz_end h H1 (by omega))
    obtain ⟨d, hd⟩ := sz_pos h A0
    have w4 := sz_mul h hd w2
    rw [E] at w4
    by_cases z : B' = 0
    · rw [z, show ∀ q : R, 0 * q = 0 by intro q; grind, sz_zero] at w4; omega
    · obtain ⟨d', hd'⟩ := sz_pos h z
      have w5 := (sz_mle h (Nat.le_of_eq hd') (show sz h (hmg h A B n H1) ≤ m * n + 1 by omega)).1
      omega)
  have s1 := f1 (sz_top h t1)
  -- the two combinations have no common part
  have c2 : cop (hmg h A B n H1) (hmg h A B n H2) := by
    refine cop_of h (fun q q1 q2 => ?_)
    have q0 : q ≠ 0 := fun z => by
      obtain ⟨w, hw⟩ := q1
      rw [z, show ∀ q : R, 0 * q = 0 by intro q; grind] at hw
      rw [hw, sz_zero] at s1; omega
    refine ⟨q0, ?_⟩
    obtain ⟨u', v', hu⟩ := c1
    -- q divides a power of B
    have d1 : ∃ N : Nat, dvs q (B ^ N) := by
      refine ⟨(sz h u' + sz h v') + n, ?_⟩
      have id : hmg h A B (sz h u' + sz h v') u' * hmg h A B n H1 + hmg h A B (sz h u' + sz h v') v' * hmg h A B n H2 = B ^ (sz h u' + sz h v' + n) := by
        have : ev h φ x (hmg h A B (sz h u' + sz h v') u' * hmg h A B n H1 + hmg h A B (sz h u' + sz h v') v' * hmg h A B n H2 - B ^ (sz h u' + sz h v' + n)) = 0 := by
          rw [hm_sub hx, hm_add hx, hm_mul hx, hm_mul hx, hmg_ev h hφ (by omega) hs, hmg_ev h hφ hn1 hs, hmg_ev h hφ (by omega) hs, hmg_ev h hφ hn2 hs, hm_pow hx, rp_add _ (sz h u' + sz h v') n]
          have o := congrArg (ev h φ s) hu
          rw [hm_add hS, hm_mul hS, hm_mul hS, hm_one hS] at o
          generalize ev h φ x B ^ (sz h u' + sz h v') = w1
          generalize ev h φ x B ^ n = w2
          rw [show ev h φ s u' * w1 * (ev h φ s H1 * w2) + ev h φ s v' * w1 * (ev h φ s H2 * w2) - w1 * w2 = w1 * w2 * (ev h φ s u' * ev h φ s H1 + ev h φ s v' * ev h φ s H2) - w1 * w2 by grind, o]; grind
        have := tr _ this
        grind
      rw [← id]; exact dvs_add (dvs_mul _ q1) (dvs_mul _ q2)
    obtain ⟨N, d1⟩ := d1
    -- and has no part in common with B
    obtain ⟨w, w1, w2, w3, w4, w5⟩ := po_gcd h _ q B (Nat.le_refl _)
    have d2 : dvs w (pC h (co H1 n) * A ^ n) := by
      have r : hmg h A B n H1 = rs n (fun i => pC h (co H1 i) * (A ^ i * B ^ (n - i))) + pC h (co H1 n) * A ^ n := by
        unfold hmg
        show rs n (fun i => pC h (co H1 i) * (A ^ i * B ^ (n - i))) + pC h (co H1 n) * (A ^ n * B ^ (n - n)) = _
        rw [Nat.sub_self, Lean.Grind.Semiring.pow_zero, show A ^ n * 1 = A ^ n by grind]
      have r2 : dvs w (rs n (fun i => pC h (co H1 i) * (A ^ i * B ^ (n - i)))) := by
        have : ∀ k, k ≤ n → dvs w (rs k (fun i => pC h (co H1 i) * (A ^ i * B ^ (n - i)))) := by
          intro k
          induction k with
          | zero => exact fun _ => ⟨0, by show (0 : R) = w * 0; grind⟩
          | succ k ih => exact fun hk => dvs_add (ih (by omega)) (by
              obtain ⟨j', hj⟩ : ∃ j', n - k = j' + 1 := ⟨n - k - 1, by omega⟩
              show dvs w (pC h (co H1 k) * (A ^ k * B ^ (n - k)))
              rw [hj, Lean.Grind.Semiring.pow_succ, show pC h (co H1 k) * (A ^ k * (B ^ j' * B)) = pC h (co H1 k) * (A ^ k * B ^ j') * B by grind]
              exact dvs_mul _ w5)
        exact this n (Nat.le_refl n)
      have r3 := dvs_sub (dvs_tr w4 q1) r2
      rw [r] at r3
      rwa [show ∀ p q : R, p + q - p = q by intro p q; grind] at r3
    have c3 : cop w A := by
      obtain ⟨a1, a2, a3⟩ := hc
      obtain ⟨z, hz⟩ := w5
      exact ⟨a2 * z, a1, by rw [hz] at a3; rw [← a3]; grind⟩
    have c4 : ∀ k : Nat, cop w (A ^ k) := fun k => by
      induction k with
      | zero => rw [Lean.Grind.Semiring.pow_zero]; exact ⟨0, 1, by grind⟩
      | succ k ih => rw [Lean.Grind.Semiring.pow_succ]; exact cop_mul ih c3
    have d3 : dvs w (pC h (co H1 n)) := cop_dvs (c4 n) (by rw [show A ^ n * pC h (co H1 n) = pC h (co H1 n) * A ^ n by grind]; exact d2)
    obtain ⟨w6, w7⟩ := dvs_C h (sz_top h t1) d3
    obtain ⟨i, hi⟩ := unit_1 h w6 w7
    have c5 : cop q B := ⟨i * w1, i * w2, by rw [w3] at hi; rw [← hi]; grind⟩
    have c6 : ∀ k : Nat, cop q (B ^ k) := fun k => by
      induction k with
      | zero => rw [Lean.Grind.Semiring.pow_zero]; exact ⟨0, 1, by grind⟩
      | succ k ih => rw [Lean.Grind.Semiring.pow_succ]; exact cop_mul ih c5
    have d4 : dvs q 1 := cop_dvs (c6 N) (by rw [show B ^ N * 1 = B ^ N by grind]; exact d1)
    exact (dvs_C h (k := (1 : F)) (fun z => Lean.Grind.Field.zero_ne_one z.symm) (by rw [pC_one]; exact d4)).2
  have d5 : dvs A' (hmg h A B n H1) := cop_dvs hc' ⟨hmg h A B n H2, E.symm⟩
  have d6 : dvs (hmg h A B n H1) A' := cop_dvs c2 ⟨B', by rw [show hmg h A B n H2 * A' = A' * hmg h A B n H2 by grind, E]; grind⟩
  obtain ⟨z1, hz1⟩ := d5
  obtain ⟨z2, hz2⟩ := d6
  have M0 : hmg h A B n H1 ≠ 0 := fun z => by rw [z, sz_zero] at s1; omega
  have z10 : z1 ≠ 0 := fun z => M0 (by rw [hz1, z]; grind)
  have z20 : z2 ≠ 0 := fun z => A0 (by rw [hz2, z]; grind)
  obtain ⟨d1, e2⟩ := sz_pos h z10
  obtain ⟨d2, e3⟩ := sz_pos h z20
  obtain ⟨d3, e4⟩ := sz_pos h A0
  have e5 := sz_mul h e4 e2
  have e6 := sz_mul h s1 e3
  rw [← hz1] at e5
  rw [← hz2] at e6
  exact ⟨n, by omega⟩
/-- reduction: where A = s B at ξ, every value is a combination of the first m powers of ξ with numbers of s -/
theorem red_ex {F R : Type} [mFld F] [mRng R] {co : R → Nat → F} {K : Type} [mFld K] (h : isPol co) {φ : F → K} (hφ : isHom φ) {A B : R} {m : Nat} (hA : sz h A = m + 1 + 1) (hB : sz h B ≤ m + 1) (w : R) :
    ∃ r : Nat → R, ∀ ξ s : K, ev h φ ξ A = s * ev h φ ξ B → ev h φ ξ w = rs (m + 1) (fun j => ev h φ s (r j) * ξ ^ j) := by
  have lt := sz_top h hA
  have h1 : (1 : K) ≠ 0 := fun z => Lean.Grind.Field.zero_ne_one z.symm
  have lt' := hm_ne hφ h1 lt
  have hi := Lean.Grind.Field.mul_inv_cancel lt'
  refine po_ind h (P := fun w => ∃ r : Nat → R, ∀ ξ s : K, ev h φ ξ A = s * ev h φ ξ B → ev h φ ξ w = rs (m + 1) (fun j => ev h φ s (r j) * ξ ^ j)) ?_ (fun c q ih => ?_) w
  · exact ⟨fun _ => 0, fun ξ s _ => by rw [hm_zero (ev_hom h hφ ξ), rs_z (fun i _ => by rw [hm_zero (ev_hom h hφ s)]; grind)]⟩
  · obtain ⟨r, hr⟩ := ih
    refine ⟨fun j => (match j with | 0 => pC h c | j + 1 => r j) + r m * (pC h (co A (m + 1))⁻¹ * (pX h * pC h (co B j) - pC h (co A j))), fun ξ s k => ?_⟩
    have hx := ev_hom h hφ ξ
    have hS := ev_hom h hφ s
    have top : φ (co A (m + 1)) * ξ ^ (m + 1) = rs (m + 1) (fun j => (s * φ (co B j) - φ (co A j)) * ξ ^ j) := by
      have k' := k
      rw [ev_rs h hφ ξ (d := m + 1 + 1) (fun n hn => sz_end h A (by omega)), ev_rs h hφ ξ (d := m + 1) (fun n hn => sz_end h B (by omega)), ← rs_mul] at k'
      have k2 : rs (m + 1) (fun n => φ (co A n) * ξ ^ n) + φ (co A (m + 1)) * ξ ^ (m + 1) = rs (m + 1) (fun i => s * (φ (co B i) * ξ ^ i)) := k'
      have k3 : rs (m + 1) (fun j => (s * φ (co B j) - φ (co A j)) * ξ ^ j) + rs (m + 1) (fun n => φ (co A n) * ξ ^ n) = rs (m + 1) (fun i => s * (φ (co B i) * ξ ^ i)) := by
        rw [← rs_add]; exact rs_ext (fun i _ => by generalize ξ ^ i = z; grind)
      grind
    have e1 : ev h φ ξ (pC h c + pX h * q) = φ c + ξ * rs (m + 1) (fun j => ev h φ s (r j) * ξ ^ j) := by
      rw [hm_add hx, hm_mul hx, ev_C h hφ, ev_X h hφ, hr ξ s k]
    have e2 : rs (m + 1) (fun j => ev h φ s ((match j with | 0 => pC h c | j + 1 => r j) + r m * (pC h (co A (m + 1))⁻¹ * (pX h * pC h (co B j) - pC h (co A j)))) * ξ ^ j) = rs (m + 1) (fun j => ev h φ s (match j with | 0 => pC h c | j + 1 => r j) * ξ ^ j) + ev h φ s (r m) * (φ (co A (m + 1)))⁻¹ * rs (m + 1) (fun j => (s * φ (co B j) - φ (co A j)) * ξ ^ j) := by
      rw [← rs_mul, ← rs_add]
      refine rs_ext (fun j _ => ?_)
      rw [hm_add hS, hm_mul hS, hm_mul hS, hm_sub hS, hm_mul hS, ev_C h hφ, ev_C h hφ, ev_C h hφ, ev_X h hφ, hm_inv hφ]
      generalize ξ ^ j = z
      grind
    have e3 : rs (m + 1) (fun j => ev h φ s (match j with | 0 => pC h c | j + 1 => r j) * ξ ^ j) = φ c + rs m (fun j => ev h φ s (r j) * ξ ^ (j + 1)) := by
      rw [rs_shift]
      show ev h φ s (pC h c) * ξ ^ 0 + rs m (fun j => ev h φ s (r j) * ξ ^ (j + 1)) = _
      rw [ev_C h hφ, Lean.Grind.Semiring.pow_zero]; grind
    have e4 : ξ * rs (m + 1) (fun j => ev h φ s (r j) * ξ ^ j) = rs m (fun j => ev h φ s (r j) * ξ ^ (j + 1)) + ev h φ s (r m) * ξ ^ (m + 1) := by
      rw [← rs_mul]
      show rs m (fun j => ξ * (ev h φ s (r j) * ξ ^ j)) + ξ * (ev h φ s (r m) * ξ ^ m) = _
      have : rs m (fun j => ξ * (ev h φ s (r j) * ξ ^ j)) = rs m (fun j => ev h φ s (r j) * ξ ^ (j + 1)) := rs_ext (fun j _ => by rw [Lean.Grind.Semiring.pow_succ]; generalize ξ ^ j = z; grind)
      rw [this, Lean.Grind.Semiring.pow_succ]; generalize ξ ^ m = z; grind
    rw [e1, e2, e3, e4, ← top]
    generalize ξ ^ (m + 1) = z
    generalize rs m (fun j => ev h φ s (r j) * ξ ^ (j + 1)) = y
    grind
/-- as many places as powers: the numbers are 0 -/
theorem vand {K : Type} [mFld K] {m : Nat} {c : Nat → K} {xs : List K} (hn : xs.Nodup) (hm : xs.length = m) (k : ∀ ξ, ξ ∈ xs → rs m (fun j => c j * ξ ^ j) = 0) : ∀ j, j < m → c j = 0 := by
  obtain ⟨R, iR, co, h⟩ := pol_ex K
  obtain ⟨p, hp⟩ := po_mk h (fun n => if n < m then c n else 0) ⟨m, fun n hn => if_neg (by omega)⟩
  have hz : ∀ n, m ≤ n → co p n = 0 := fun n hn => by rw [hp]; exact if_neg (by omega)
  have p0 : p = 0 := Classical.byContradiction (fun ne => by
    have := po_roots h xs p ne hn (fun ξ hξ => by
      rw [ev_rs h hm_id ξ hz, ← k ξ hξ]
      exact rs_ext (fun i hi => by rw [hp]; simp only [if_pos hi]))
    have := sz_le h hz
    omega)
  intro j hj
  have : co p j = c j := by rw [hp]; exact if_pos hj
  rw [← this, p0, po_zero h]
