/-! primes -/
theorem pr_div {p d : Nat} (h : isp p) (hp : 2 ≤ p) (hd : d ∣ p) : d = 1 ∨ d = p := by
  obtain ⟨e, he⟩ := hd
  have hd0 : 0 < d := Nat.pos_of_ne_zero fun h0 => by rw [h0, Nat.zero_mul] at he; omega
  have he0 : 0 < e := Nat.pos_of_ne_zero fun h0 => by rw [h0, Nat.mul_zero] at he; omega
  by_cases c : d = 1
  · exact Or.inl c
  · by_cases c2 : e = 1
    · exact Or.inr (by rw [he, c2, Nat.mul_one])
    · rcases Nat.le_total d e with q | q
      · exact absurd (by rw [he]; exact Nat.mul_mod_right d e) (h d (by omega) (by rw [he]; exact Nat.mul_le_mul_left d q))
      · exact absurd (by rw [he]; exact Nat.mul_mod_left d e) (h e (by omega) (by rw [he]; exact Nat.mul_le_mul_right e q))
theorem pr_cop {p x : Nat} (h : isp p) (hp : 2 ≤ p) (hx : ¬ p ∣ x) : Nat.Coprime p x := by
  rcases pr_div h hp (Nat.gcd_dvd_left p x) with e | e
  · exact e
  · exact absurd (e ▸ Nat.gcd_dvd_right p x) hx
theorem pr_mul {p : Nat} (h : isp p) (hp : 2 ≤ p) {x y : Nat} (hd : p ∣ x * y) : p ∣ x ∨ p ∣ y := by
  by_cases c : p ∣ x
  · exact Or.inl c
  · exact Or.inr ((pr_cop h hp c).dvd_of_dvd_mul_left hd)
theorem pr_E {p : Nat} (h : isp p) (hp : 2 ≤ p) (x y : Int) (hd : (p : Int) ∣ x * y) : (p : Int) ∣ x ∨ (p : Int) ∣ y := by
  rw [← Int.natAbs_dvd_natAbs, Int.natAbs_mul, Int.natAbs_natCast] at hd
  rcases pr_mul h hp hd with c | c
  · left; rw [← Int.natAbs_dvd_natAbs, Int.natAbs_natCast]; exact c
  · right; rw [← Int.natAbs_dvd_natAbs, Int.natAbs_natCast]; exact c
theorem pr_small {p : Nat} (i : Nat) (h0 : 0 < i) (hi : i < p) : ¬ (p : Int) ∣ (i : Int) := fun hd => by
  have := Nat.le_of_dvd h0 (Int.ofNat_dvd.mp hd); omega
/-! the p-th power -/
def hs_Y (c : Nat → Int) : Nat → Int := fun n => hs_X c n + c n
def hs_Yk : Nat → (Nat → Int) → (Nat → Int)
  | 0, c => c
  | k + 1, c => hs_Y (hs_Yk k c)
theorem hs_D_d0 : hs_D (hs_d 0) = fun _ => 0 := by
  funext n; show ((n : Int) + 1) * (if n + 1 = 0 then (1 : Int) else 0) = 0; rw [if_neg (by omega), Int.mul_zero]
theorem hs_DY (c : Nat → Int) : hs_D (hs_Y c) = fun n => hs_Y (hs_D c) n + c n := by
  have e : hs_Y c = fun n => 1 * hs_X c n + 1 * c n := by funext n; show hs_X c n + c n = _; omega
  rw [e, hs_D_lin, hs_DX]; funext n; show 1 * (hs_X (hs_D c) n + c n) + 1 * hs_D c n = hs_X (hs_D c) n + hs_D c n + c n; omega
theorem hs_DYk : ∀ k : Nat, hs_D (hs_Yk (k + 1) (hs_d 0)) = fun n => ((k : Int) + 1) * hs_Yk k (hs_d 0) n
  | 0 => by
    show hs_D (hs_Y (hs_d 0)) = _
    rw [hs_DY, hs_D_d0]; funext n
    show hs_X (fun _ => 0) n + 0 + hs_d 0 n = ((0 : Nat) + 1 : Int) * hs_d 0 n
    have : hs_X (fun _ => 0) n = 0 := by match n with | 0 => rfl | n + 1 => rfl
    rw [this]; push_cast; omega
  | k + 1 => by
    show hs_D (hs_Y (hs_Yk (k + 1) (hs_d 0))) = _
    rw [hs_DY, hs_DYk k]; funext n
    show hs_X (fun n => ((k : Int) + 1) * hs_Yk k (hs_d 0) n) n + ((k : Int) + 1) * hs_Yk k (hs_d 0) n + (hs_X (hs_Yk k (hs_d 0)) n + hs_Yk k (hs_d 0) n) = (((k + 1 : Nat) : Int) + 1) * (hs_X (hs_Yk k (hs_d 0)) n + hs_Yk k (hs_d 0) n)
    have : hs_X (fun n => ((k : Int) + 1) * hs_Yk k (hs_d 0) n) n = ((k : Int) + 1) * hs_X (hs_Yk k (hs_d 0)) n := by
      match n with
      | 0 => show (0 : Int) = ((k : Int) + 1) * 0; omega
      | n + 1 => rfl
    rw [this]; push_cast; grind
theorem hs_Yk_ends : ∀ k : Nat, hs_Yk k (hs_d 0) 0 = 1 ∧ hs_Yk k (hs_d 0) k = 1 ∧ ∀ n, k < n → hs_Yk k (hs_d 0) n = 0
  | 0 => ⟨rfl, rfl, fun n hn => by show (if n = 0 then (1 : Int) else 0) = 0; rw [if_neg (by omega)]⟩
  | k + 1 => by
    obtain ⟨h1, h2, h3⟩ := hs_Yk_ends k
    refine ⟨?_, ?_, fun n hn => ?_⟩
    · show 0 + hs_Yk k (hs_d 0) 0 = 1; omega
    · show hs_Yk k (hs_d 0) k + hs_Yk k (hs_d 0) (k + 1) = 1; rw [h2, h3 _ (by omega)]; rfl
    · obtain ⟨n, rfl⟩ : ∃ m, n = m + 1 := ⟨n - 1, by omega⟩
      show hs_Yk k (hs_d 0) n + hs_Yk k (hs_d 0) (n + 1) = 0; rw [h3 _ (by omega), h3 _ (by omega)]; rfl
theorem hs_v_Yk {P r : Int} : ∀ k : Nat, hs_v P (hs_Yk k (hs_d 0)) r ((r + 1) ^ k)
  | 0 => by
    have := hs_v_of (P := P) (r := r) (q := hs_d 0) (d := 1) (fun n hn => by show (if n = 0 then (1 : Int) else 0) = 0; rw [if_neg (by omega)])
    rw [Int.pow_zero]
    have e : hs_e 1 (hs_d 0) r = 1 := by show 0 + (if 0 = 0 then (1 : Int) else 0) * r ^ 0 = 1; rw [if_pos rfl, Int.pow_zero]; rfl
    rwa [e] at this
  | k + 1 => by
    have h := hs_v_add (hs_v_X (hs_v_Yk (P := P) (r := r) k)) (hs_v_Yk (P := P) (r := r) k)
    refine hs_v_eq ?_ h
    rw [Int.pow_succ, show r * (r + 1) ^ k + (r + 1) ^ k - (r + 1) ^ k * (r + 1) = 0 by grind]; exact Int.dvd_zero P
theorem pr_step {p : Nat} (h : isp p) (hp : 2 ≤ p) (r : Int) : (p : Int) ∣ (r + 1) ^ p - (r ^ p + 1) := by
  obtain ⟨h1, h2, h3⟩ := hs_Yk_ends p
  have hz : ∀ n, 0 < n → n < p → (p : Int) ∣ hs_Yk p (hs_d 0) n := fun n hn0 hn => by
    obtain ⟨m, rfl⟩ : ∃ m, n = m + 1 := ⟨n - 1, by omega⟩
    obtain ⟨k, rfl⟩ : ∃ k, p = k + 1 := ⟨p - 1, by omega⟩
    have e := congrFun (hs_DYk k) m
    have e : ((m : Int) + 1) * hs_Yk (k + 1) (hs_d 0) (m + 1) = ((k : Int) + 1) * hs_Yk k (hs_d 0) m := e
    have hd : ((k + 1 : Nat) : Int) ∣ ((m : Int) + 1) * hs_Yk (k + 1) (hs_d 0) (m + 1) := by rw [e]; push_cast; exact Int.dvd_mul_right _ _
    rcases pr_E h hp _ _ hd with c | c
    · exact absurd (by push_cast at c ⊢; exact c) (pr_small (p := k + 1) (m + 1) (by omega) hn)
    · exact c
  have hv := hs_v_un (hs_v_Yk (P := (p : Int)) (r := r) p) (hs_v_of (P := (p : Int)) (r := r) (q := hs_Yk p (hs_d 0)) (d := p + 1) (fun n hn => h3 n (by omega)))
  have hs := hs_s_one (P := (p : Int)) (f := fun i => hs_Yk p (hs_d 0) i * r ^ i) (u := 0) (n := p) (by omega) (fun i hi hne => Int.dvd_mul_of_dvd_left (hz i (by omega) hi))
  have hs : (p : Int) ∣ hs_s p (fun i => hs_Yk p (hs_d 0) i * r ^ i) - hs_Yk p (hs_d 0) 0 * r ^ 0 := hs
  have e : hs_e (p + 1) (hs_Yk p (hs_d 0)) r = hs_s p (fun i => hs_Yk p (hs_d 0) i * r ^ i) + hs_Yk p (hs_d 0) p * r ^ p := rfl
  rw [e, h2] at hv
  rw [h1, Int.pow_zero] at hs
  have := Int.dvd_add hv hs
  rwa [show (r + 1) ^ p - (hs_s p (fun i => hs_Yk p (hs_d 0) i * r ^ i) + 1 * r ^ p) + (hs_s p (fun i => hs_Yk p (hs_d 0) i * r ^ i) - 1 * 1) = (r + 1) ^ p - (r ^ p + 1) by omega] at this
theorem pr_fermat {p : Nat} (h : isp p) (hp : 2 ≤ p) : ∀ r : Nat, (p : Int) ∣ (r : Int) ^ p - r
  | 0 => by
    have : (0 : Int) ^ p = 0 := by obtain ⟨k, rfl⟩ : ∃ k, p = k + 1 := ⟨p - 1, by omega⟩; rw [Int.pow_succ, Int.mul_zero]
    show (p : Int) ∣ (0 : Int) ^ p - 0
    rw [this]; exact Int.dvd_zero _
  | r + 1 => by
    have h1 := pr_step h hp (r : Int)
    have h2 := Int.dvd_add h1 (pr_fermat h hp r)
    push_cast
    rwa [show ((r : Int) + 1) ^ p - ((r : Int) ^ p + 1) + ((r : Int) ^ p - r) = ((r : Int) + 1) ^ p - (r + 1) by omega] at h2
theorem pr_fermat1 {p : Nat} (h : isp p) (hp : 2 ≤ p) (r : Nat) (hr : ¬ (p : Int) ∣ (r : Int)) : (p : Int) ∣ (r : Int) ^ (p - 1) - 1 := by
  have h1 := pr_fermat h hp r
  obtain ⟨k, rfl⟩ : ∃ k, p = k + 1 := ⟨p - 1, by omega⟩
  rw [Int.pow_succ, show (r : Int) ^ k * r - r = r * ((r : Int) ^ k - 1) by grind] at h1
  rcases pr_E h hp _ _ h1 with c | c
  · exact absurd c hr
  · exact c
/-! the points of a curve -/
def ls2 (P A B : Nat) (c : Nat) : Nat → List Nat
  | 0 => []
  | k + 1 => if wt P (cub P A B k) = c then k :: ls2 P A B c k else ls2 P A B c k
theorem ls2_mem {P A B c : Nat} : ∀ {k x : Nat}, x ∈ ls2 P A B c k → x < k ∧ wt P (cub P A B x) = c
  | 0, x, h => by simp [ls2] at h
  | k + 1, x, h => by
    unfold ls2 at h
    by_cases q : wt P (cub P A B k) = c
    · rw [if_pos q] at h
      rcases List.mem_cons.mp h with e | e
      · rw [e]; exact ⟨Nat.lt_succ_self k, q⟩
      · have := ls2_mem e; exact ⟨by omega, this.2⟩
    · rw [if_neg q] at h
      have := ls2_mem h; exact ⟨by omega, this.2⟩
theorem ls2_pw {P A B c : Nat} : ∀ {k : Nat}, k ≤ P → ((ls2 P A B c k).map (fun x : Nat => (x : Int))).Pairwise (fun x y => ¬ (P : Int) ∣ y - x)
  | 0, _ => List.Pairwise.nil
  | k + 1, hk => by
    unfold ls2
    by_cases q : wt P (cub P A B k) = c
    · rw [if_pos q, List.map_cons, List.pairwise_cons]
      refine ⟨fun y hy => ?_, ls2_pw (by omega)⟩
      obtain ⟨x, hx, rfl⟩ := List.mem_map.mp hy
      have hxk := (ls2_mem hx).1
      intro hd
      have hd := Int.dvd_neg.mpr hd
      rw [Int.neg_sub, show ((k : Int) - (x : Int)) = ((k - x : Nat) : Int) by omega] at hd
      exact pr_small (p := P) (k - x) (by omega) (by omega) hd
    · rw [if_neg q]; exact ls2_pw (by omega)
theorem cnt_ls (P A B : Nat) : ∀ k : Nat, cnt P A B k = 1 + (ls2 P A B 1 k).length + 2 * (ls2 P A B 2 k).length
  | 0 => rfl
  | k + 1 => by
    show cnt P A B k + wt P (cub P A B k) = _
    rw [cnt_ls P A B k]
    have h0 : wt P (cub P A B k) = 0 ∨ wt P (cub P A B k) = 1 ∨ wt P (cub P A B k) = 2 := by have := wt_le P (cub P A B k); omega
    have e1 : ls2 P A B 1 (k + 1) = if wt P (cub P A B k) = 1 then k :: ls2 P A B 1 k else ls2 P A B 1 k := rfl
    have e2 : ls2 P A B 2 (k + 1) = if wt P (cub P A B k) = 2 then k :: ls2 P A B 2 k else ls2 P A B 2 k := rfl
    rw [e1, e2]
    rcases h0 with e | e | e
    · rw [e, if_neg (by omega), if_neg (by omega)]; omega
    · rw [e, if_pos rfl, if_neg (by omega), List.length_cons]; omega
    · rw [e, if_neg (by omega), if_pos rfl, List.length_cons]; omega
theorem cub_mod (P A B x : Nat) : (P : Int) ∣ ((x : Int) ^ 3 + (A : Int) * x + B) - (cub P A B x : Nat) := by
  unfold cub
  rw [Int.natCast_emod, Int.natCast_add, Int.natCast_mul, Int.natCast_emod]
  have h1 : (P : Int) ∣ ((x * x + A : Nat) : Int) - ((x * x + A : Nat) : Int) % P := Int.dvd_self_sub_emod
  have h2 : (P : Int) ∣ (((x * x + A : Nat) : Int) % P * x + B) - (((x * x + A : Nat) : Int) % P * x + B) % P := Int.dvd_self_sub_emod
  have h3 := Int.dvd_add (hs_mr (x : Int) h1) h2
  rw [show (x : Int) * (((x * x + A : Nat) : Int) - ((x * x + A : Nat) : Int) % P) + ((((x * x + A : Nat) : Int) % P * x + B) - (((x * x + A : Nat) : Int) % P * x + B) % P) = (x : Int) * ((x * x + A : Nat) : Int) + B - (((x * x + A : Nat) : Int) % P * x + B) % P by grind] at h3
  rw [show (x : Int) ^ 3 + (A : Int) * x + B = (x : Int) * ((x * x + A : Nat) : Int) + B by push_cast; grind]
  exact h3
theorem ls2_two {P A B : Nat} (hp : isp P) (h5 : 5 ≤ P) {h : Nat} (hph : P = 2 * h + 1) {x : Nat} (hx : wt P (cub P A B x) = 2) : (P : Int) ∣ ((x : Int) ^ 3 + (A : Int) * x + B) ^ h - 1 := by
  have hw : cub P A B x ≠ 0 ∧ sqb P (cub P A B x) = true := by
    unfold wt at hx
    by_cases c : cub P A B x = 0
    · rw [if_pos c] at hx; omega
    · rw [if_neg c] at hx
      by_cases c2 : sqb P (cub P A B x) = true
      · exact ⟨c, c2⟩
      · rw [if_neg c2] at hx; omega
  obtain ⟨y, hy, hyy⟩ := sqb_iff.mp hw.2
  have hy0 : ¬ (P : Int) ∣ (y : Int) := fun hd => hw.1 (by
    have := Int.ofNat_dvd.mp hd
    rw [← hyy]; exact Nat.mod_eq_zero_of_dvd (Nat.dvd_trans this (Nat.dvd_mul_right y y)))
  have h1 := cub_mod P A B x
  have h2 : (P : Int) ∣ ((y : Int) * y) - (cub P A B x : Nat) := by
    rw [← hyy, Int.natCast_emod, Int.natCast_mul]; exact Int.dvd_self_sub_emod
  have h3 := Int.dvd_sub h1 h2
  rw [show ((x : Int) ^ 3 + (A : Int) * x + B) - ((cub P A B x : Nat) : Int) - ((y : Int) * y - ((cub P A B x : Nat) : Int)) = ((x : Int) ^ 3 + (A : Int) * x + B) - (y : Int) * y by omega] at h3
  have h4 := hs_powmod h3 h
  have h5' := pr_fermat1 hp (by omega) y hy0
  rw [show P - 1 = 2 * h by omega, Int.pow_mul, show (y : Int) ^ 2 = (y : Int) * y by grind] at h5'
  have := Int.dvd_add h4 h5'
  rwa [show ((x : Int) ^ 3 + (A : Int) * x + B) ^ h - ((y : Int) * y) ^ h + (((y : Int) * y) ^ h - 1) = ((x : Int) ^ 3 + (A : Int) * x + B) ^ h - 1 by omega] at this
theorem ls2_one {P A B : Nat} (hp : isp P) (h5 : 5 ≤ P) : (ls2 P A B 1 P).length ≤ 3 := by
  have hE := pr_E hp (by omega)
  have h1 : ¬ (P : Int) ∣ 1 := pr_small (p := P) 1 (by omega) (by omega)
  have hz : ∀ r ∈ (ls2 P A B 1 P).map (fun x : Nat => (x : Int)), hs_V (P : Int) r 1 (hs_F (A : Int) (B : Int) (hs_d 0)) := fun r hr i hi => by
    obtain ⟨x, hx, rfl⟩ := List.mem_map.mp hr
    obtain rfl : i = 0 := by omega
    have hw := (ls2_mem hx).2
    have hc : cub P A B x = 0 := by
      unfold wt at hw
      by_cases c : cub P A B x = 0
      · exact c
      · rw [if_neg c] at hw
        by_cases c2 : sqb P (cub P A B x) = true
        · rw [if_pos c2] at hw; omega
        · rw [if_neg c2] at hw; omega
    have h2 := cub_mod P A B x
    rw [hc] at h2
    have h3 := hs_v_F (a := (A : Int)) (b := (B : Int)) (hs_v_Yk (P := (P : Int)) (r := (x : Int)) 0)
    rw [Int.pow_zero, Int.mul_one] at h3
    exact hs_v_eq h2 h3
  have := hs_count hE (pr_small (p := P)) 1 (by omega) _ 4 (hs_F (A : Int) (B : Int) (hs_d 0)) (hs_sF (d := 1) (fun n hn => by show (if n = 0 then (1 : Int) else 0) = 0; rw [if_neg (by omega)])) ⟨3, by
    have e : hs_F (A : Int) (B : Int) (hs_d 0) 3 = 1 := by
      show (1 : Int) + (A : Int) * 0 + (B : Int) * 0 = 1; omega
    rw [e]; exact h1⟩ hz (ls2_pw (Nat.le_refl P))
  rw [List.length_map] at this; omega
theorem cnt_K {P A B : Nat} (hp : isp P) (h5 : 5 ≤ P) {h : Nat} (hph : P = 2 * h + 1) (K : Nat) (hK : 2 * K ≤ P) (hh : 2 * K * (2 * K + 1) + 1 < h) : 2 * K * (ls2 P A B 2 P).length < (K + 1) * P := by
  have := hs_bound (a := (A : Int)) (b := (B : Int)) (p := P) (h := h) (n := h - 1) (K := K) (pr_E hp (by omega)) (pr_small (p := P)) hph (by omega) hK (by omega) ((ls2 P A B 2 P).map (fun x : Nat => (x : Int))) (ls2_pw (Nat.le_refl P)) (fun r hr => by
    obtain ⟨x, hx, rfl⟩ := List.mem_map.mp hr
    exact ⟨pr_fermat hp (by omega) x, ls2_two hp h5 hph (ls2_mem hx).2⟩)
  rwa [List.length_map] at this
theorem pr_odd {P : Nat} (hp : isp P) (h5 : 5 ≤ P) : P = 2 * ((P - 1) / 2) + 1 := by
  have := hp 2 (by omega) (by omega); omega
/-- no curve has more than 10300 points -/
theorem cnt_10300 {P A B : Nat} (hp : isp P) (h5 : 5 ≤ P) (hP : P ≤ 10007) : cnt P A B P ≤ 10298 := by
  have h1 := ls2_one (A := A) (B := B) hp h5
  have ho := pr_odd hp h5
  rw [cnt_ls]
  by_cases c1 : P ≤ 5148
  · have := cnt_le P A B P
    rw [cnt_ls] at this; omega
  · by_cases c2 : P ≤ 9899
    · have := cnt_K (A := A) (B := B) hp h5 ho 25 (by omega) (by omega)
      omega
    · by_cases c3 : P ≤ 9960
      · have := cnt_K (A := A) (B := B) hp h5 ho 30 (by omega) (by omega)
        omega
      · have := cnt_K (A := A) (B := B) hp h5 ho 35 (by omega) (by omega)
        omega
theorem cnt_mono (P A B : Nat) {k l : Nat} (h : k ≤ l) : cnt P A B k ≤ cnt P A B l := by
  induction l with
  | zero => rw [Nat.le_zero.mp h]; exact Nat.le_refl _
  | succ l ih =>
    by_cases e : k = l + 1
    · rw [e]; exact Nat.le_refl _
    · have := ih (by omega)
      show _ ≤ cnt P A B l + wt P (cub P A B l)
      omega
