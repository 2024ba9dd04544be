/-! how many points there are, and the chain of the p-th power less the identity -/
def cb {F : Type} [mFld F] (a b x : F) : F := x * x * x + a * x + b
noncomputable def zsl {F : Type} [mFld F] (a b : F) (els : List F) : List F := fl (fun c => cb a b c = 0) els
noncomputable def ssl {F : Type} [mFld F] (a b : F) (e : Nat) (els : List F) : List F := fl (fun c => cb a b c ≠ 0 ∧ cb a b c ^ e = 1) els
noncomputable def tsl {F : Type} [mFld F] (a b : F) (e : Nat) (els : List F) : List F := fl (fun c => cb a b c ≠ 0 ∧ cb a b c ^ e ≠ 1) els
theorem zst_len {F : Type} [mFld F] (a b : F) (e : Nat) (els : List F) : (zsl a b els).length + (ssl a b e els).length + (tsl a b e els).length = els.length := by
  have h1 := fl_len (fun c => cb a b c = 0) els
  have h2 := fl_len (fun c => cb a b c ^ e = 1) (fl (fun c => ¬ cb a b c = 0) els)
  rw [fl_fl, fl_fl] at h2
  unfold zsl ssl tsl
  show (fl (fun c => cb a b c = 0) els).length + (fl (fun c => ¬ cb a b c = 0 ∧ cb a b c ^ e = 1) els).length + (fl (fun c => ¬ cb a b c = 0 ∧ ¬ cb a b c ^ e = 1) els).length = _
  omega
noncomputable def npts {F : Type} [mFld F] (a b : F) (e : Nat) (els : List F) : Nat := 1 + (zsl a b els).length + 2 * (ssl a b e els).length
theorem euler {F : Type} [mFld F] {p e : Nat} {els : List F} (k : isFp F p els) (he : p = 2 * e + 1) {x : F} (hx : x ≠ 0) : x ^ e = 1 ∨ x ^ e = -1 := by
  have h1 := k.2.2.2 x
  have h2 : x ^ e * x ^ e = 1 := by
    rw [he, show 2 * e + 1 = e + e + 1 by omega, Lean.Grind.Semiring.pow_succ, Lean.Grind.Semiring.pow_add] at h1
    have := Lean.Grind.Field.mul_inv_cancel hx
    grind
  have h3 : (x ^ e - 1) * (x ^ e + 1) = 0 := by grind
  rcases Lean.Grind.Field.of_mul_eq_zero h3 with z | z
  · left; grind
  · right; grind
theorem rl_hs1 {R : Type} [mRng R] {X T a b H f : R} (hf : f = X * X * X + a * X + b) (hH : f * (H * H) = T * T * T + a * T + b) :
    let N := f * ((H + 1) * (H + 1)) - (T + X) * ((T - X) * (T - X))
    N * N - gS a b X T 1 * N + gM a b X T 1 * ((T - X) * (T - X)) = 0 := by
  intro N
  have hN : N = (T * T * T + a * T + b) + f - (T + X) * ((T - X) * (T - X)) + 2 * (f * H) := by show f * ((H + 1) * (H + 1)) - (T + X) * ((T - X) * (T - X)) = _; rw [← hH]; grind
  have h0 : f + (T * T * T + a * T + b) - (T + X) * ((T - X) * (T - X)) = (T * X + a) * (T + X) + 2 * b := by rw [hf]; grind
  have hN2 : N = (T * X + a) * (T + X) + 2 * b + 2 * (f * H) := by rw [hN, ← h0]; grind
  have h1 : 4 * (f * H) * (f * H) = 4 * f * (T * T * T + a * T + b) := by rw [← hH]; grind
  have h2 : gS a b X T 1 = 2 * ((T * X + a) * (T + X) + 2 * b) := by unfold gS; grind
  rw [hN2, h2]
  have h3 : ((T * X + a) * (T + X) + 2 * b + 2 * (f * H)) * ((T * X + a) * (T + X) + 2 * b + 2 * (f * H)) - 2 * ((T * X + a) * (T + X) + 2 * b) * ((T * X + a) * (T + X) + 2 * b + 2 * (f * H)) = 4 * (f * H) * (f * H) - ((T * X + a) * (T + X) + 2 * b) * ((T * X + a) * (T + X) + 2 * b) := by grind
  rw [h3, h1, hf]; unfold gM; grind
theorem rl_fz {R : Type} [mRng R] {X c a b : R} (m : c * c * c + a * c + b = 0) : X * X * X + a * X + b = (X - c) * (X * X + c * X + c * c + a) := by grind
theorem hs_fH {F R : Type} [mFld F] [mRng R] {co : R → Nat → F} (h : isPol co) {p e : Nat} {els : List F} (k : isFp F p els) (he : p = 2 * e + 1) (a b : F) : fC h a b * (fC h a b ^ e * fC h a b ^ e) = pX h ^ p * pX h ^ p * pX h ^ p + pC h a * pX h ^ p + pC h b := by
  have e1 : fC h a b ^ p = fC h a b * (fC h a b ^ e * fC h a b ^ e) := by rw [he, show 2 * e + 1 = e + e + 1 by omega, Lean.Grind.Semiring.pow_succ, Lean.Grind.Semiring.pow_add]; grind
  rw [← e1, frob_f h k, ev_f h (pC_hom h)]
/-- the chain's first two: the p-th power less the identity, the p-th power -/
theorem hs_data {F R : Type} [mFld F] [mRng R] {co : R → Nat → F} (h : isPol co) {p e : Nat} {els : List F} (k : isFp F p els) (he : p = 2 * e + 1) (e2 : 2 ≤ e) {a b : F} (h2 : (2 : F) ≠ 0) (hns : 4 * a * a * a + 27 * b * b ≠ 0) :
    ∃ A B cp : R, gGood h a b (A, B) (pX h ^ p, 1) ∧ sz h A = npts a b e els + 1 ∧ cp * A = fC h a b * ((fC h a b ^ e + 1) * (fC h a b ^ e + 1)) - (pX h ^ p + pX h) * ((pX h ^ p - pX h) * (pX h ^ p - pX h)) ∧ cp * B = (pX h ^ p - pX h) * (pX h ^ p - pX h) := by
  have hid := hm_id (F := F)
  have hh := fun c : F => ev_hom h hid c
  have fp := k.2.2.2
  have o1 : sz h (1 : R) = 1 := by rw [← pC_one h, sz_C h (fun z => Lean.Grind.Field.zero_ne_one z.symm)]
  have evf : ∀ c : F, ev h (fun x => x) c (fC h a b) = cb a b c := fun c => ev_f h hid a b c
  -- the three lists
  have nz := fl_nodup (q := fun c => cb a b c = 0) k.1
  have ns := fl_nodup (q := fun c => cb a b c ≠ 0 ∧ cb a b c ^ e = 1) k.1
  have nt := fl_nodup (q := fun c => cb a b c ≠ 0 ∧ cb a b c ^ e ≠ 1) k.1
  have len := zst_len a b e els
  obtain ⟨f1, hf1⟩ := prl_dvs h (zsl a b els) (fC h a b) nz (fun c hc => by rw [evf]; exact (fl_mem.mp hc).2)
  obtain ⟨h1, hh1⟩ := prl_dvs h (tsl a b e els) (fC h a b ^ e + 1) nt (fun c hc => by
    have m := (fl_mem.mp hc).2
    rw [hm_add (hh c), hm_pow (hh c), evf, hm_one (hh c)]
    rcases euler k he m.1 with z | z
    · exact absurd z m.2
    · rw [z]; grind)
  have D1 : pX h ^ p - pX h = prl h (zsl a b els) * (prl h (ssl a b e els) * prl h (tsl a b e els)) := by
    rw [← prl_app, ← prl_app]
    have pl : (zsl a b els ++ (ssl a b e els ++ tsl a b e els)).length = p := by rw [List.length_append, List.length_append, ← k.2.2.1]; omega
    have s1 : sz h (pX h ^ p - pX h) = p + 1 := by
      rw [show pX h ^ p - pX h = pX h ^ p + - pX h by grind, sz_addl h (by rw [sz_neg, sz_X, (X_pow h p).1]; omega), (X_pow h p).1]
    have s2 := prl_sz h (zsl a b els ++ (ssl a b e els ++ tsl a b e els))
    have s3 := prl_mon h (zsl a b els ++ (ssl a b e els ++ tsl a b e els))
    rw [pl] at s2 s3
    refine po_agree h (l := els) k.1 (by rw [s1, k.2.2.1]; omega) (by rw [s2, k.2.2.1]; omega) ?_ (fun c hc => ?_)
    · rw [k.2.2.1, s3, po_sub h, (X_pow h p).2, co_X h, if_neg (by omega)]; grind
    · rw [hm_sub (hh c), hm_pow (hh c), ev_X h hid, fp, prl_0 h ?_]
      · grind
      · rw [List.mem_append, List.mem_append]
        by_cases z : cb a b c = 0
        · exact Or.inl (fl_mem.mpr ⟨hc, z⟩)
        · by_cases w : cb a b c ^ e = 1
          · exact Or.inr (Or.inl (fl_mem.mpr ⟨hc, z, w⟩))
          · exact Or.inr (Or.inr (fl_mem.mpr ⟨hc, z, w⟩))
  -- sizes
  have sZ := prl_sz h (zsl a b els)
  have sS := prl_sz h (ssl a b e els)
  have sT := prl_sz h (tsl a b e els)
  have evZ0 : ∀ c, c ∈ zsl a b els → ev h (fun x => x) c (prl h (zsl a b els)) = 0 := fun c hc => prl_0 h hc
  have hH := hs_fH h k he a b
  have hf : fC h a b = pX h * pX h * pX h + pC h a * pX h + pC h b := rfl
  have fpos : ∀ n : Nat, sz h (fC h a b ^ n) = 3 * n + 1 := fun n => by
    induction n with
    | zero => rw [Lean.Grind.Semiring.pow_zero, o1]
    | succ n ih => rw [Lean.Grind.Semiring.pow_succ, sz_mul h ih (sz_f h a b)]; omega
  -- f1 and h1 at the places of the lists
  have c1 : ∀ c, c ∈ zsl a b els ∨ c ∈ ssl a b e els → ev h (fun x => x) c f1 ≠ 0 := by
    intro c hc z
    rcases hc with hc | hc
    · have m := (fl_mem.mp hc).2
      -- (X - c) divides f1, and prl: f has c twice
      obtain ⟨g, hg⟩ := po_root h z
      obtain ⟨w, hw⟩ := po_root h (evZ0 c hc)
      have e3 : fC h a b = (pX h - pC h c) * (pX h * pX h + pC h c * pX h + pC h c * pC h c + pC h a) := by
        have mm : pC h (cb a b c) = 0 := by rw [m, pC_zero]
        unfold cb at mm
        rw [pC_add, pC_add, pC_mul, pC_mul, pC_mul] at mm
        rw [hf]; exact rl_fz mm
      have e4 : pX h * pX h + pC h c * pX h + pC h c * pC h c + pC h a = (pX h - pC h c) * (w * g) := by
        refine po_canc h (XC_ne h c) ?_
        rw [← e3, hf1, hw, hg]; grind
      have e5 := congrArg (ev h (fun x => x) c) e4
      rw [hm_mul (hh c), ev_XC, hm_add (hh c), hm_add (hh c), hm_add (hh c), hm_mul (hh c), hm_mul (hh c), hm_mul (hh c), ev_X h hid, ev_C h hid, ev_C h hid] at e5
      have g0 : 3 * c * c + a = 0 := by grind
      exact hns (by unfold cb at m; grind)
    · have m := (fl_mem.mp hc).2
      have e5 := congrArg (ev h (fun x => x) c) hf1
      rw [hm_mul (hh c), z, evf] at e5
      exact m.1 (by rw [e5]; grind)
  have c2 : ∀ c, c ∈ zsl a b els ∨ c ∈ ssl a b e els → ev h (fun x => x) c h1 ≠ 0 := by
    intro c hc z
    have e5 := congrArg (ev h (fun x => x) c) hh1
    rw [hm_mul (hh c), z, hm_add (hh c), hm_pow (hh c), evf, hm_one (hh c)] at e5
    rcases hc with hc | hc
    · have m := (fl_mem.mp hc).2
      rw [m, rp_0 (by omega)] at e5
      exact Lean.Grind.Field.zero_ne_one (α := F) (by grind)
    · have m := (fl_mem.mp hc).2
      rw [m.2] at e5
      exact h2 (by grind)
  refine ⟨f1 * (h1 * h1) - (pX h ^ p + pX h) * (prl h (zsl a b els) * (prl h (ssl a b e els) * prl h (ssl a b e els))), prl h (zsl a b els) * (prl h (ssl a b e els) * prl h (ssl a b e els)), prl h (zsl a b els) * (prl h (tsl a b e els) * prl h (tsl a b e els)), ?_⟩
  generalize hA : f1 * (h1 * h1) - (pX h ^ p + pX h) * (prl h (zsl a b els) * (prl h (ssl a b e els) * prl h (ssl a b e els))) = A
  have evA : ∀ c, c ∈ zsl a b els ∨ c ∈ ssl a b e els → ev h (fun x => x) c A ≠ 0 := by
    intro c hc z
    have zB : ev h (fun x => x) c (prl h (zsl a b els) * (prl h (ssl a b e els) * prl h (ssl a b e els))) = 0 := by
      rw [hm_mul (hh c), hm_mul (hh c)]
      rcases hc with hc | hc
      · rw [prl_0 h hc]; grind
      · rw [prl_0 h hc]; grind
    rw [← hA, hm_sub (hh c), hm_mul (hh c) f1, hm_mul (hh c) h1, hm_mul (hh c) (pX h ^ p + pX h), zB] at z
    have z1 : ev h (fun x => x) c f1 * (ev h (fun x => x) c h1 * ev h (fun x => x) c h1) = 0 := by grind
    rcases Lean.Grind.Field.of_mul_eq_zero z1 with w | w
    · exact c1 c hc w
    · rcases Lean.Grind.Field.of_mul_eq_zero w with w | w <;> exact c2 c hc w
  have N1 : prl h (zsl a b els) * (prl h (tsl a b e els) * prl h (tsl a b e els)) * A = fC h a b * ((fC h a b ^ e + 1) * (fC h a b ^ e + 1)) - (pX h ^ p + pX h) * ((pX h ^ p - pX h) * (pX h ^ p - pX h)) := by
    rw [← hA, hh1, D1]
    generalize pX h ^ p + pX h = w
    generalize prl h (tsl a b e els) = t at *
    generalize prl h (ssl a b e els) = s at *
    rw [hf1]
    generalize prl h (zsl a b els) = z at *
    grind
  have N2 : prl h (zsl a b els) * (prl h (tsl a b e els) * prl h (tsl a b e els)) * (prl h (zsl a b els) * (prl h (ssl a b e els) * prl h (ssl a b e els))) = (pX h ^ p - pX h) * (pX h ^ p - pX h) := by
    rw [D1]; grind
  have sB : sz h (prl h (zsl a b els) * (prl h (ssl a b e els) * prl h (ssl a b e els))) = npts a b e els := by
    rw [sz_mul h sZ (sz_mul h sS sS)]; unfold npts; omega
  have sC : sz h (prl h (zsl a b els) * (prl h (tsl a b e els) * prl h (tsl a b e els))) = (zsl a b els).length + 2 * (tsl a b e els).length + 1 := by
    rw [sz_mul h sZ (sz_mul h sT sT)]; omega
  have Xp := (X_pow h p).1
  have sN : sz h (fC h a b * ((fC h a b ^ e + 1) * (fC h a b ^ e + 1)) - (pX h ^ p + pX h) * ((pX h ^ p - pX h) * (pX h ^ p - pX h))) = 2 * p + 2 := by
    have q : fC h a b * ((fC h a b ^ e + 1) * (fC h a b ^ e + 1)) - (pX h ^ p + pX h) * ((pX h ^ p - pX h) * (pX h ^ p - pX h)) = pX h ^ p * pX h ^ p * pX h + (pX h ^ p * (pX h * pX h) + pC h a * pX h ^ p + (fC h a b * fC h a b ^ e + fC h a b * fC h a b ^ e) + (pC h a * pX h + (pC h b + pC h b))) := by
      generalize fC h a b ^ e = H at *
      generalize pX h ^ p = T at *
      have : fC h a b * ((H + 1) * (H + 1)) = fC h a b * (H * H) + (fC h a b * H + fC h a b * H) + fC h a b := by grind
      rw [this, hH, hf]; grind
    have s1 : sz h (pX h ^ p * pX h ^ p * pX h) = 2 * p + 2 := by rw [sz_mul h (sz_mul h Xp Xp) (sz_X h)]; omega
    have s2 : sz h (pX h ^ p * (pX h * pX h)) ≤ 2 * p + 1 := by rw [sz_mul h Xp (sz_mul h (sz_X h) (sz_X h))]; omega
    have s3 : sz h (pC h a * pX h ^ p) ≤ 2 * p + 1 := by have := (sz_mle h (sz_Cle h a) (Nat.le_of_eq Xp)).1; omega
    have s4 : sz h (fC h a b * fC h a b ^ e) ≤ 2 * p + 1 := by rw [sz_mul h (sz_f h a b) (fpos e)]; omega
    have s5 : sz h (pC h a * pX h + (pC h b + pC h b)) ≤ 2 * p + 1 := by
      have := (sz_mle h (sz_Cle h a) (Nat.le_of_eq (sz_X h))).1
      have := sz_Cle h b
      exact sz_add h (by omega) (sz_add h (by omega) (by omega))
    rw [q, sz_addl h (by have := sz_add h (sz_add h (sz_add h s2 s3) (sz_add h s4 s4)) s5; omega), s1]
  have A0 : A ≠ 0 := fun z => by rw [z, show prl h (zsl a b els) * (prl h (tsl a b e els) * prl h (tsl a b e els)) * 0 = (0 : R) by grind] at N1; rw [← N1, sz_zero] at sN; omega
  have sA : sz h A = npts a b e els + 1 := by
    obtain ⟨m, hm⟩ := sz_pos h A0
    have q := sz_mul h sC hm
    rw [N1, sN] at q
    have pl := k.2.2.1
    unfold npts; omega
  have C0 : prl h (zsl a b els) * (prl h (tsl a b e els) * prl h (tsl a b e els)) ≠ 0 := fun z => by rw [z, sz_zero] at sC; omega
  refine ⟨⟨?_, ⟨0, 1, by grind⟩, ?_, ?_, ?_⟩, sA, N1, N2⟩
  · exact cop_mul (cop_prl h (fun c hc => evA c (Or.inl hc))) (cop_mul (cop_prl h (fun c hc => evA c (Or.inr hc))) (cop_prl h (fun c hc => evA c (Or.inr hc))))
  · show sz h (prl h (zsl a b els) * (prl h (ssl a b e els) * prl h (ssl a b e els))) < sz h A
    rw [sB, sA]; omega
  · show sz h (1 : R) < sz h (pX h ^ p); rw [o1, Xp]; omega
  · have id := rl_hs1 (X := pX h) (T := pX h ^ p) (a := pC h a) (b := pC h b) (H := fC h a b ^ e) hf hH
    unfold gRel
    show gD (pX h) (pX h ^ p) 1 * gD (pX h) (pX h ^ p) 1 * (A * A) - gS (pC h a) (pC h b) (pX h) (pX h ^ p) 1 * (A * (prl h (zsl a b els) * (prl h (ssl a b e els) * prl h (ssl a b e els)))) + gM (pC h a) (pC h b) (pX h) (pX h ^ p) 1 * ((prl h (zsl a b els) * (prl h (ssl a b e els) * prl h (ssl a b e els))) * (prl h (zsl a b els) * (prl h (ssl a b e els) * prl h (ssl a b e els)))) = 0
    simp only at id
    rw [← N1, ← N2] at id
    have gd : gD (pX h) (pX h ^ p) 1 * gD (pX h) (pX h ^ p) 1 = prl h (zsl a b els) * (prl h (tsl a b e els) * prl h (tsl a b e els)) * (prl h (zsl a b els) * (prl h (ssl a b e els) * prl h (ssl a b e els))) := by rw [N2]; unfold gD; grind
    rw [gd]
    have B0 : prl h (zsl a b els) * (prl h (ssl a b e els) * prl h (ssl a b e els)) ≠ 0 := fun z => by rw [z, sz_zero] at sB; unfold npts at sB; omega
    generalize prl h (zsl a b els) * (prl h (ssl a b e els) * prl h (ssl a b e els)) = B at *
    generalize prl h (zsl a b els) * (prl h (tsl a b e els) * prl h (tsl a b e els)) = cp at *
    generalize gS (pC h a) (pC h b) (pX h) (pX h ^ p) 1 = S at *
    generalize gM (pC h a) (pC h b) (pX h) (pX h ^ p) 1 = M at *
    refine po_canc h (p := cp) C0 ?_
    have : cp * (cp * B * (A * A) - S * (A * B) + M * (B * B)) = B * (cp * A * (cp * A) - S * (cp * A) + M * (cp * B)) := by grind
    rw [this, id]; grind
