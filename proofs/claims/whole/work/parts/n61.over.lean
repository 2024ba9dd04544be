/-! one over a number modulo a prime, as the reference finds it -/
theorem an1 (x : Int32) (h : 0 ≤ x.toInt) : (x &&& 1 = 1) ↔ x.toInt.toNat % 2 = 1 := by
  have h1 : (x &&& 1).toBitVec.toNat = x.toBitVec.toNat % 2 := by
    have : (x &&& 1).toBitVec = x.toBitVec &&& 1#32 := rfl
    rw [this, BitVec.toNat_and]
    exact Nat.and_two_pow_sub_one_eq_mod x.toBitVec.toNat 1
  have h4 : x.toInt = if 2 * x.toBitVec.toNat < 2 ^ 32 then (x.toBitVec.toNat : Int) else (x.toBitVec.toNat : Int) - (2 ^ 32 : Nat) := BitVec.toInt_eq_toNat_cond x.toBitVec
  have hb := x.toBitVec.isLt
  have e : x.toInt.toNat = x.toBitVec.toNat := by split at h4 <;> omega
  rw [e, ← h1]
  constructor
  · intro z; rw [z]; rfl
  · intro z
    apply Int32.toBitVec_inj.mp
    apply BitVec.eq_of_toNat_eq
    rw [z]; rfl
theorem overR {N : Nat} (hN : 2 ^ 64 ≤ N) {n v : Nat} (hp : prm n) (hn : n ≤ 10300) (v0 : 0 < v) (hv : v < n) : ∃ r, r < n ∧ mX6_over N (nI v) (nI n) = some (nI r) ∧ (n : Int) ∣ (v : Int) * r - 1 := by
  have n2 := hp.1
  have hz : ¬ (nI n).toInt64 = 0 := by
    rw [nI_l (by omega)]; intro h
    have := (lN_eq (a := n) (b := 0) (by omega) (by omega)).mp h
    omega
  have lm : ∀ a b, a < n → b < n → mi_lrem (lN a * lN b) (nI n).toInt64 = lN (a * b % n) := fun a b ha hb => by
    have : a * b ≤ 10300 * 10300 := Nat.mul_le_mul (by omega) (by omega)
    rw [nI_l (by omega), lN_mul]
    unfold mi_lrem
    rw [pk_lRem (by omega) (by omega) (by omega)]
  obtain ⟨V, hV⟩ : ∃ V, v ^ (n - 2) % n = V := ⟨_, rfl⟩
  have Vn : V < n := hV ▸ Nat.mod_lt _ (by omega)
  obtain ⟨⟨o1, o2, o3⟩, ho, q⟩ := mi_run_ok (mX6_over_b13 N (nI n)) (fun s => ∃ x y : Nat, s.1 = lN x ∧ s.2.1 = lN y ∧ x < n ∧ y < n ∧ 0 ≤ s.2.2.toInt ∧ x * y ^ s.2.2.toInt.toNat % n = V) (fun o => o.1 = lN V) (fun s => s.2.2.toInt.toNat) (by
    rintro ⟨x1, x2, x3⟩ ⟨x, y, e1, e2, hx, hy, h0, h3⟩
    have e1' : x1 = lN x := e1
    have e2' : x2 = lN y := e2
    have h3' : x * y ^ x3.toInt.toNat % n = V := h3
    have h0' : 0 ≤ x3.toInt := h0
    subst e1' e2'
    dsimp only [mX6_over_b13, mi_let]
    by_cases c : x3 ≤ 0
    · right; rw [if_pos c]
      refine ⟨_, rfl, ?_⟩
      have := Int32.le_iff_toInt_le.mp c
      rw [show (0 : Int32).toInt = 0 by decide] at this
      have z : x3.toInt.toNat = 0 := by omega
      show lN x = _
      rw [← h3', z, Nat.pow_zero, Nat.mul_one, Nat.mod_eq_of_lt hx]
    · left
      have c' : 0 < x3.toInt := Int.not_le.mp fun h => c (Int32.le_iff_toInt_le.mpr (by rw [show (0 : Int32).toInt = 0 by decide]; exact h))
      have hs := shr32 x3
      have od := an1 x3 h0'
      rw [if_neg c, if_neg hz, if_neg hz, if_neg hz, lm x y hx hy, lm y y hy hy]
      generalize hz2 : x3 >>> ((1 : Int32) &&& 31) = z at *
      have zz : z.toInt.toNat = x3.toInt.toNat / 2 := by omega
      by_cases d : x3 &&& 1 = 1
      · rw [if_pos d]
        refine ⟨_, rfl, ⟨x * y % n, y * y % n, rfl, rfl, Nat.mod_lt _ (by omega), Nat.mod_lt _ (by omega), by show 0 ≤ z.toInt; omega, ?_⟩, by show z.toInt.toNat < x3.toInt.toNat; omega⟩
        show (x * y % n) * (y * y % n) ^ z.toInt.toNat % n = _
        rw [zz, pw_odd n x y _ (od.mp d), h3']
      · have o1 : x3.toInt.toNat % 2 = 0 := by
          have : ¬ x3.toInt.toNat % 2 = 1 := fun z => d (od.mpr z)
          omega
        rw [if_neg d]
        refine ⟨_, rfl, ⟨x, y * y % n, rfl, rfl, hx, Nat.mod_lt _ (by omega), by show 0 ≤ z.toInt; omega, ?_⟩, by show z.toInt.toNat < x3.toInt.toNat; omega⟩
        show x * (y * y % n) ^ z.toInt.toNat % n = _
        rw [zz, pw_even n x y _ o1, h3']) N (1, lN v, nI (n - 2)) ⟨1, v, rfl, rfl, by omega, hv, by show 0 ≤ (nI (n - 2)).toInt; rw [nI_toInt (by omega)]; omega, by
      show 1 * v ^ (nI (n - 2)).toInt.toNat % n = V
      rw [nI_toInt (by omega), Int.toNat_natCast, Nat.one_mul]; exact hV⟩ (by
    show (nI (n - 2)).toInt.toNat < N
    rw [nI_toInt (by omega)]; omega)
  refine ⟨V, Vn, ?_, ?_⟩
  · unfold mX6_over
    have s2 : nI n - 2 = nI (n - 2) := by rw [nI_zI, nI_zI, show (2 : Int32) = zI 2 from rfl, zI_sub]; congr 1; omega
    rw [if_neg (nI_ne0 (by omega) (by omega)), rem_nI (by omega) (by omega) (by omega), Nat.mod_eq_of_lt hv]; dsimp only [mi_let]
    rw [nI_l (by omega), s2, ho]; simp only [Option.bind_some]
    have q' : o1 = lN V := q
    rw [if_neg hz, q', nI_l (by omega)]
    unfold mi_lrem
    rw [pk_lRem (by omega) (by omega) (by omega), lN_i, Nat.mod_eq_of_lt Vn]
  · have hf := pr_fermat1 (isp_prm hp) n2 v (pr_small (p := n) v v0 hv)
    have h1 := (og_iff n2).mp hf
    have h2 : v * V % n = 1 := by
      rw [← hV, Nat.mul_mod_mod, Nat.mul_comm, ← Nat.pow_succ, show (n - 2).succ = n - 1 by omega]; exact h1
    refine ⟨((v * V / n : Nat) : Int), ?_⟩
    have := Nat.div_add_mod (v * V) n
    rw [h2] at this
    rw [← Int.natCast_mul, ← Int.natCast_mul]; omega
