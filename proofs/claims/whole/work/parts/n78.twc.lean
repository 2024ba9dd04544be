/-! a curve and its twist have 2 p + 2 points together -/
theorem nd_mapi {α β : Type} {f : α → β} (inj : ∀ x y, f x = f y → x = y) : ∀ {l : List α}, l.Nodup → (l.map f).Nodup
  | [], _ => List.nodup_nil
  | c :: l, h => by
    have h := List.nodup_cons.mp h
    refine List.nodup_cons.mpr ⟨fun k => ?_, nd_mapi inj h.2⟩
    obtain ⟨x, hx, e⟩ := List.mem_map.mp k
    rw [inj _ _ e] at hx
    exact h.1 hx
theorem fp_mulpow {F : Type} [mRng F] (a b : F) : ∀ n : Nat, (a * b) ^ n = a ^ n * b ^ n
  | 0 => by rw [Lean.Grind.Semiring.pow_zero, Lean.Grind.Semiring.pow_zero, Lean.Grind.Semiring.pow_zero]; grind
  | n + 1 => by
    rw [Lean.Grind.Semiring.pow_succ, Lean.Grind.Semiring.pow_succ, Lean.Grind.Semiring.pow_succ, fp_mulpow a b n]; grind
theorem tw_cb {F : Type} [mFld F] (a b d c : F) : cb (a * (d * d)) (b * (d * (d * d))) (d * c) = d * d * d * cb a b c := by unfold cb; grind
theorem tw_npts {F : Type} [mFld F] {p e : Nat} {els : List F} (k : isFp F p els) (he : p = 2 * e + 1) (h2 : (2 : F) ≠ 0) (hn : els.Nodup) (hel : ∀ x : F, x ∈ els) (hlen : els.length = p) {d : F} (d0 : d ≠ 0) (nd : ∀ r, r * r ≠ d) (a b : F) : npts (a * (d * d)) (b * (d * (d * d))) e els + npts a b e els = 2 * p + 2 := by
  have de : d ^ e = -1 := by
    rcases euler k he d0 with z | z
    · obtain ⟨r, hr⟩ := sqrt_ex k he h2 d0 z
      exact absurd hr (nd r)
    · exact z
  have d3 : (d * d * d) ^ e = -1 := by
    rw [fp_mulpow, fp_mulpow, de]; grind
  have ddd : d * d * d ≠ 0 := fun z => by
    rcases Lean.Grind.Field.of_mul_eq_zero z with z | z
    · rcases Lean.Grind.Field.of_mul_eq_zero z with z | z <;> exact d0 z
    · exact d0 z
  have inj : ∀ x y : F, d * x = d * y → x = y := fun x y h => by
    have h1 := Lean.Grind.Field.mul_inv_cancel d0
    have : d⁻¹ * (d * x) = d⁻¹ * (d * y) := by rw [h]
    have e1 : d⁻¹ * (d * x) = (d * d⁻¹) * x := by grind
    have e2 : d⁻¹ * (d * y) = (d * d⁻¹) * y := by grind
    rw [e1, e2, h1] at this
    grind
  have n11 : (1 : F) ≠ -1 := fun z => h2 (by grind)
  have one : ∀ {q r : F → Prop}, (∀ c, q c → r (d * c)) → (fl q els).length ≤ (fl r els).length := fun h => by
    have := nd_le ((fl _ els).map (fun c => d * c)) (fl _ els) (nd_mapi inj (fl_nodup hn)) (fun c hc => by
      obtain ⟨x, hx, ex⟩ := List.mem_map.mp hc
      rw [← ex]
      exact fl_mem.mpr ⟨hel _, h x (fl_mem.mp hx).2⟩)
    rwa [List.length_map] at this
  have z := zst_len a b e els
  have z' := zst_len (a * (d * d)) (b * (d * (d * d))) e els
  have l1 : (zsl a b els).length ≤ (zsl (a * (d * d)) (b * (d * (d * d))) els).length := one (fun c hc => by rw [tw_cb, hc]; grind)
  have l2 : (ssl a b e els).length ≤ (tsl (a * (d * d)) (b * (d * (d * d))) e els).length := one (fun c hc => by
    rw [tw_cb]
    refine ⟨fun w => ?_, fun w => ?_⟩
    · rcases Lean.Grind.Field.of_mul_eq_zero w with w | w
      · exact ddd w
      · exact hc.1 w
    · rw [fp_mulpow, d3, hc.2] at w
      exact n11 (by grind))
  have l3 : (tsl a b e els).length ≤ (ssl (a * (d * d)) (b * (d * (d * d))) e els).length := one (fun c hc => by
    rw [tw_cb]
    refine ⟨fun w => ?_, ?_⟩
    · rcases Lean.Grind.Field.of_mul_eq_zero w with w | w
      · exact ddd w
      · exact hc.1 w
    · have : cb a b c ^ e = -1 := by
        rcases euler k he hc.1 with y | y
        · exact absurd y hc.2
        · exact y
      rw [fp_mulpow, d3, this]; grind)
  unfold npts
  omega
theorem tw_cnt {P A B d A' B' : Nat} (hp : isp P) (h5 : 5 ≤ P) (hP : P ≤ 10007) (d2 : 2 ≤ d) (dP : d < P) (nd : ∀ r, r < P → ¬ r * r % P = d) (eA : A' = A * (d * d % P) % P) (eB : B' = B * (d * (d * d % P) % P) % P) : cnt P A' B' P + cnt P A B P = 2 * P + 2 := by
  obtain ⟨F, i, φ, hF⟩ := gf_ex hp (by omega)
  have he := pr_odd hp h5
  rw [← npts_cnt hF hp h5 he A B, ← npts_cnt hF hp h5 he A' B']
  have fp := gf_fp hF hp (by omega)
  have hA : φ ((A' : Nat) : Int) = φ A * (φ d * φ d) := by
    rw [eA, gf_modN hF, Int.natCast_mul, hF.1.2.2, gf_modN hF, Int.natCast_mul, hF.1.2.2]
  have hB : φ ((B' : Nat) : Int) = φ B * (φ d * (φ d * φ d)) := by
    rw [eB, gf_modN hF, Int.natCast_mul, hF.1.2.2, gf_modN hF, Int.natCast_mul, hF.1.2.2, gf_modN hF, Int.natCast_mul, hF.1.2.2]
  rw [hA, hB]
  refine tw_npts fp he ?_ ?_ ?_ ?_ ?_ ?_ _ _
  · have := (gf_ch hF).1 2 (by omega) (by omega)
    exact this
  · exact fp.1
  · intro x
    obtain ⟨n, hn, e⟩ := hF.2.2 x
    exact List.mem_map.mpr ⟨n, List.mem_range.mpr hn, e.symm⟩
  · rw [List.length_map, List.length_range]
  · intro z
    have := gf_nat hF dP (by omega) (b := 0) (z.trans (hm_zero hF.1).symm)
    omega
  · intro r hr
    obtain ⟨n, hn, e⟩ := hF.2.2 r
    refine nd n hn (gf_nat hF (Nat.mod_lt _ (by omega)) dP ?_)
    rw [gf_modN hF, Int.natCast_mul, hF.1.2.2, ← e]; exact hr
