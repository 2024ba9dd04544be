theorem pC_num {F R : Type} [mRng F] [mRng R] {co : R → Nat → F} (h : isPol co) (n : Nat) (x : F) : pC h (OfNat.ofNat (α := F) n * x) = OfNat.ofNat (α := R) n * pC h x := by
  induction n with
  | zero => rw [show (OfNat.ofNat (α := F) 0) * x = 0 by grind, pC_zero]; grind
  | succ n ih => rw [Lean.Grind.Semiring.ofNat_succ (α := R) n, Lean.Grind.Semiring.ofNat_succ (α := F) n, show (OfNat.ofNat (α := F) n + 1) * x = OfNat.ofNat n * x + x by grind, pC_add, ih]; grind
theorem ct_add {F R : Type} [mFld F] [mRng R] {co : R → Nat → F} (h : isPol co) {x y : R} (hx : sz h x ≤ 1) (hy : sz h y ≤ 1) : sz h (x + y) ≤ 1 := sz_add h hx hy
theorem ct_sub {F R : Type} [mFld F] [mRng R] {co : R → Nat → F} (h : isPol co) {x y : R} (hx : sz h x ≤ 1) (hy : sz h y ≤ 1) : sz h (x - y) ≤ 1 := sz_sub h hx hy
theorem ct_mul {F R : Type} [mFld F] [mRng R] {co : R → Nat → F} (h : isPol co) {x y : R} (hx : sz h x ≤ 1) (hy : sz h y ≤ 1) : sz h (x * y) ≤ 1 := (sz_mle h (d := 0) (e := 0) hx hy).1
theorem ct_num {F R : Type} [mFld F] [mRng R] {co : R → Nat → F} (h : isPol co) (n : Nat) : sz h (OfNat.ofNat (α := R) n) ≤ 1 := by
  have := pC_num h n (1 : F)
  rw [pC_one, show ∀ z : R, z * 1 = z by intro z; grind] at this
  rw [← this]; exact sz_Cle h _
theorem hr_sz {F R : Type} [mFld F] [mRng R] {co : R → Nat → F} (h : isPol co) {w c : R} {n : Nat} (hw : sz h w ≤ n + 1) (hc : sz h c ≤ 1) : sz h (pX h * w + c) ≤ n + 1 + 1 :=
  sz_add h (by have := sm_mul h (n := 1) (Nat.le_of_eq (sz_X h)) hw; omega) (by omega)
theorem rl_v3 {R : Type} [mRng R] {f X p u z a b P1 P2 E1 E2 : R} (hu : u * (X * X) = (p * p) * P1 + E1) (hz : z * (X * X * X) = (p * p * p) * P2 + E2) :
    (f * (z * z) - u * u * u - a * u * (p * p) * (p * p) - b * (p * p) * (p * p) * (p * p)) * (X * X * X * (X * X * X)) =
      (p * p * p) * ((p * p * p) * (f * (P2 * P2) - P1 * P1 * P1 - a * P1 * (X * X * X * X) - b * (X * X * X * (X * X * X)))) + (f * ((p * p * p) * P2 + (p * p * p) * P2 + E2)) * E2 - (((p * p) * P1) * ((p * p) * P1) + (((p * p) * P1) * ((p * p) * P1)) + (((p * p) * P1) * ((p * p) * P1)) + (((p * p) * P1) + ((p * p) * P1) + ((p * p) * P1) + E1) * E1) * E1 - a * ((p * p) * (p * p) * (X * X * X * X)) * E1 := by
  have : (f * (z * z) - u * u * u - a * u * (p * p) * (p * p) - b * (p * p) * (p * p) * (p * p)) * (X * X * X * (X * X * X)) = f * ((z * (X * X * X)) * (z * (X * X * X))) - (u * (X * X)) * (u * (X * X)) * (u * (X * X)) - a * (u * (X * X)) * ((p * p) * (p * p) * (X * X * X * X)) - b * (p * p * p) * (p * p * p) * (X * X * X * (X * X * X)) := by grind
  rw [this, hu, hz]; grind
theorem rl_v4 {R : Type} [mRng R] {X a b T1 T2 a' b' f : R} (ha : a' = a - 5 * T1) (hb : b' = b - 7 * T2) (hf : f = X * X * X + a * X + b) :
    f * ((X * X * X - T1 * X - (T2 + T2)) * (X * X * X - T1 * X - (T2 + T2))) - (X * X * X + T1 * X + T2) * (X * X * X + T1 * X + T2) * (X * X * X + T1 * X + T2) - a' * (X * X * X + T1 * X + T2) * (X * X * X * X) - b' * (X * X * X * (X * X * X)) =
      X * (X * (X * (X * (X * (3 * (T1 * T1) - 3 * (a * T1)) + (3 * (T1 * T2) - 5 * (a * T2) - 2 * (b * T1))) + (T2 * T2 + a * (T1 * T1) - 4 * (b * T2) - T1 * (T1 * T1))) + (4 * (a * (T1 * T2)) + b * (T1 * T1) - 3 * (T1 * (T1 * T2)))) + (4 * (a * (T2 * T2)) + 4 * (b * (T1 * T2)) - 3 * (T1 * (T2 * T2)))) + (4 * (b * (T2 * T2)) - T2 * (T2 * T2)) := by
  rw [ha, hb, hf]; grind
theorem vC_sz {F R : Type} [mFld F] [mRng R] {co : R → Nat → F} (h : isPol co) (a b : F) (e G V : Nat → F) (K : Nat) : sz h (vC h a b (a - 5 * vT1 G K) (b - 7 * vT2 e G V K) e G V K) ≤ 6 * K := by
  obtain ⟨E1, s1, hu⟩ := vU_exp h e G V K
  obtain ⟨E2, s2, hz⟩ := vZ_exp h e G V K
  have sp := (pr_sz h e K).1
  have sX := sz_X h
  have id := rl_v3 (f := fC h a b) (a := pC h (a - 5 * vT1 G K)) (b := pC h (b - 7 * vT2 e G V K)) hu hz
  have ha : pC h (a - 5 * vT1 G K) = pC h a - 5 * pC h (vT1 G K) := by rw [pC_sub, pC_num]
  have hb : pC h (b - 7 * vT2 e G V K) = pC h b - 7 * pC h (vT2 e G V K) := by rw [pC_sub, pC_num]
  rw [rl_v4 ha hb (show fC h a b = pX h * pX h * pX h + pC h a * pX h + pC h b from rfl)] at id
  have ca := sz_Cle h a
  have cb := sz_Cle h b
  have c1 := sz_Cle h (vT1 G K)
  have c2 := sz_Cle h (vT2 e G V K)
  have ca' := sz_Cle h (a - 5 * vT1 G K)
  have sf := sz_f h a b
  unfold vC
  generalize pC h (a - 5 * vT1 G K) = a' at *
  generalize pC h (b - 7 * vT2 e G V K) = b' at *
  generalize pC h (vT1 G K) = T1 at *
  generalize pC h (vT2 e G V K) = T2 at *
  generalize pC h a = A at *
  generalize pC h b = B at *
  generalize vU h e G V K = u at *
  generalize vZ h e G V K = z at *
  generalize pr h e K = p at *
  have X2 : sz h (pX h * pX h) = 3 := sz_mul h sX sX
  have X3 : sz h (pX h * pX h * pX h) = 4 := sz_mul h X2 sX
  have X4 : sz h (pX h * pX h * pX h * pX h) = 5 := sz_mul h X3 sX
  have X6 : sz h (pX h * pX h * pX h * (pX h * pX h * pX h)) = 7 := sz_mul h X3 X3
  have p2 : sz h (p * p) = 2 * K + 1 := by rw [sz_mul h sp sp]; omega
  have p3 : sz h (p * p * p) = 3 * K + 1 := by rw [sz_mul h p2 sp]; omega
  have p4 : sz h (p * p * (p * p)) = 4 * K + 1 := by rw [sz_mul h p2 p2]; omega
  have q1 : sz h (pX h * pX h * pX h + T1 * pX h + T2) ≤ 3 + 1 := sz_add h (sz_add h (by omega) (by have := sm_mul h (n := 0) (by omega) (Nat.le_of_eq sX) (w := T1); omega)) (by omega)
  have q2 : sz h (pX h * pX h * pX h - T1 * pX h - (T2 + T2)) ≤ 3 + 1 := sz_sub h (sz_sub h (by omega) (by have := sm_mul h (n := 0) (by omega) (Nat.le_of_eq sX) (w := T1); omega)) (by have := sz_add h c2 c2; omega)
  generalize hP1 : pX h * pX h * pX h + T1 * pX h + T2 = P1 at *
  generalize hP2 : pX h * pX h * pX h - T1 * pX h - (T2 + T2) = P2 at *
  -- the bracket
  have n3 := ct_num h 3; have n4 := ct_num h 4; have n5 := ct_num h 5; have n2 := ct_num h 2
  have bk := hr_sz h (hr_sz h (hr_sz h (hr_sz h (hr_sz h (w := 3 * (T1 * T1) - 3 * (A * T1)) (n := 0) (ct_sub h (ct_mul h n3 (ct_mul h c1 c1)) (ct_mul h n3 (ct_mul h ca c1)))
      (ct_sub h (ct_sub h (ct_mul h n3 (ct_mul h c1 c2)) (ct_mul h n5 (ct_mul h ca c2))) (ct_mul h n2 (ct_mul h cb c1))))
      (ct_sub h (ct_sub h (ct_add h (ct_mul h c2 c2) (ct_mul h ca (ct_mul h c1 c1))) (ct_mul h n4 (ct_mul h cb c2))) (ct_mul h c1 (ct_mul h c1 c1))))
      (ct_sub h (ct_add h (ct_mul h n4 (ct_mul h ca (ct_mul h c1 c2))) (ct_mul h cb (ct_mul h c1 c1))) (ct_mul h n3 (ct_mul h c1 (ct_mul h c1 c2)))))
      (ct_sub h (ct_add h (ct_mul h n4 (ct_mul h ca (ct_mul h c2 c2))) (ct_mul h n4 (ct_mul h cb (ct_mul h c1 c2)))) (ct_mul h n3 (ct_mul h c1 (ct_mul h c2 c2)))))
      (ct_sub h (ct_mul h n4 (ct_mul h cb (ct_mul h c2 c2))) (ct_mul h c2 (ct_mul h c2 c2)))
  have r1 := sm_mul h (Nat.le_of_eq p3) (sm_mul h (Nat.le_of_eq p3) bk)
  have pP1 : sz h (p * p * P1) ≤ 2 * K + 3 + 1 := by have := sm_mul h (Nat.le_of_eq p2) q1; omega
  have pP2 : sz h (p * p * p * P2) ≤ 3 * K + 3 + 1 := by have := sm_mul h (Nat.le_of_eq p3) q2; omega
  have r2 : sz h (fC h a b * (p * p * p * P2 + p * p * p * P2 + E2)) ≤ 3 * K + 6 + 1 := by
    have := sm_mul h (Nat.le_of_eq sf) (sz_add h (sz_add h pP2 pP2) (show sz h E2 ≤ 3 * K + 3 + 1 by omega)); omega
  have r3 := sm_mul h r2 s2
  have r4 : sz h (p * p * P1 * (p * p * P1) + p * p * P1 * (p * p * P1) + p * p * P1 * (p * p * P1) + (p * p * P1 + p * p * P1 + p * p * P1 + E1) * E1) ≤ 4 * K + 6 + 1 := by
    have w1 := sm_mul h pP1 pP1
    have w2 := sm_mul h (sz_add h (sz_add h (sz_add h pP1 pP1) pP1) (show sz h E1 ≤ 2 * K + 3 + 1 by omega)) s1
    exact sz_add h (sz_add h (sz_add h (by omega) (by omega)) (by omega)) (by omega)
  have r5 := sm_mul h r4 s1
  have r6 : sz h (a' * (p * p * (p * p) * (pX h * pX h * pX h * pX h))) ≤ 4 * K + 4 + 1 := by
    have := sm_mul h (n := 0) (w := a') (by omega) (sm_mul h (Nat.le_of_eq p4) (Nat.le_of_eq X4)); omega
  have r7 := sm_mul h r6 s1
  have tot := sz_sub h (d := 6 * K + 6) (sz_sub h (sz_add h (Nat.le_trans r1 (by omega)) (Nat.le_trans r3 (by omega))) (Nat.le_trans r5 (by omega))) (Nat.le_trans r7 (by omega))
  have tot2 : sz h ((fC h a b * (z * z) - u * u * u - a' * u * (p * p) * (p * p) - b' * (p * p) * (p * p) * (p * p)) * (pX h * pX h * pX h * (pX h * pX h * pX h))) ≤ 6 * K + 6 := by rw [id]; exact tot
  clear id
  generalize fC h a b * (z * z) - u * u * u - a' * u * (p * p) * (p * p) - b' * (p * p) * (p * p) * (p * p) = c at *
  by_cases c0 : c = 0
  · rw [c0, sz_zero]; omega
  · obtain ⟨d, hd⟩ := sz_pos h c0
    have := sz_mul h hd X6
    omega
