def HI (T : Nat → Prop) (pts : Nat → Int32) (j : Nat) (c : Int32) (h : Nat → Int32) : Prop := c = nI (ctN T j) ∧ ∀ k, k < j → T k → h (ctN T k) = pts k
theorem ctN_lt {T : Nat → Prop} {i j : Nat} (h : i < j) (t : T i) : ctN T i < ctN T j := by
  have := ctN_mono (T := T) (i := i + 1) (j := j) h
  rw [ctN_y t] at this; omega
theorem HI_n {T : Nat → Prop} {pts : Nat → Int32} {j : Nat} {c : Int32} {h : Nat → Int32} (k : HI T pts j c h) (n : ¬ T j) : HI T pts (j + 1) c h := by
  refine ⟨by rw [ctN_n n]; exact k.1, fun i hi ti => ?_⟩
  by_cases e : i = j
  · rw [e] at ti; exact absurd ti n
  · exact k.2 i (by omega) ti
theorem HI_y (N : Nat) {T : Nat → Prop} {pts : Nat → Int32} {j : Nat} {c : Int32} {h : Nat → Int32} (k : HI T pts j c h) (y : T j) (b : ctN T j < 4) : ∃ c' h', mX3_keepHalf N h (pts j) c = some (c', h') ∧ HI T pts (j + 1) c' h' := by
  obtain ⟨rfl, k⟩ := k
  unfold mX3_keepHalf
  rw [if_neg (show ¬ nI (ctN T j) < 0 from nI_nlt (b := 0) (by omega) (by omega)), if_pos (show nI (ctN T j) < 4 from nI_lt (b := 4) b (by omega)), if_neg (ix_nI b (by omega)), nI_clamp (by omega)]
  refine ⟨_, _, rfl, by rw [ctN_y y]; exact nI_1 _, fun i hi ti => ?_⟩
  by_cases e : i = j
  · subst e; unfold upd; rw [if_pos rfl]
  · have := ctN_lt (show i < j by omega) ti
    unfold upd; rw [if_neg (by omega)]; exact k i (by omega) ti
theorem opp0 (N : Nat) {P x : Nat} (hP : P ≤ 10007) (hx : x < P) : mX0_opposite N (nI P) (nI (16384 * x + 0)) = some (nI (16384 * x + 0)) := by
  unfold mX0_opposite
  rw [if_neg (pt_ne (by omega) (by omega)), (xOf_nI N (x := x) (y := 0) (by omega) (by omega)).2]; simp only [Option.bind_some]
  rw [if_pos (show nI 0 = 0 from rfl)]
/-- what the class keeps of halves -/
theorem fhC {N : Nat} (hN : 2 ^ 64 ≤ N) {F : Type} [mFld F] {P A B : Nat} {φ : Int → F} (hc : CX F P A B φ) {pts ah : Nat → Int32} (hL : LK P A B P pts ah) {W : Nat → EP (φ A) (φ B)} (hW : ∀ j, j < cnt P A B P → pe P φ (pts j) (W j).1) {u : Int32} {U : EP (φ A) (φ B)} (hu : pe P φ u U.1) (b4 : ctN (fun j => gO hc (W j) (W j) = U) (cnt P A B P) ≤ 4) {pr : Int32} {gl : Nat → Int32} (ht : tabC pr gl) {c0 : Int32} {h0 : Nat → Int32} (H0 : HI (fun j => gO hc (W j) (W j) = U) pts 1 c0 h0) : ∃ o, mi_run (mX3_findHalves_b17 N (nI P) (nI A) (nI B) u) N (c0, 0, pr, h0, gl) = some o ∧ HI (fun j => gO hc (W j) (W j) = U) pts (cnt P A B P) o.1 o.2.2.2.1 ∧ tabC o.2.2.1 o.2.2.2.2 := by
  have hc0 := hc
  obtain ⟨hF, hp, h5, hP, hA, hB, -⟩ := hc0
  have h1 : 1 ≤ P := by omega
  have od := pr_odd hp h5
  generalize eT : (fun j => gO hc (W j) (W j) = U) = T at *
  have sT : ∀ j, j < cnt P A B P → ∃ w, mX0_sum N (nI P) (nI A) (pts j) (pts j) = some w ∧ (w = u ↔ T j) := fun j hj => by
    obtain ⟨w, e, pw⟩ := sumCe hc N (by omega) (hW j hj) (hW j hj)
    refine ⟨w, e, ?_⟩
    rw [← eT]
    constructor
    · intro z
      rw [z] at pw
      exact Subtype.ext (pe_un hP pw hu)
    · intro z
      have z : gO hc (W j) (W j) = U := z
      rw [z] at pw
      exact pe_inj hF pw hu
  have ct4 : ∀ j, j < cnt P A B P → T j → ctN T j < 4 := fun j hj t => by
    have := ctN_lt hj t; omega
  refine mi_run_ok (mX3_findHalves_b17 N (nI P) (nI A) (nI B) u) (fun s => ∃ x, x ≤ P ∧ s.2.1 = nI x ∧ tabC s.2.2.1 s.2.2.2.2 ∧ HI T pts (cnt P A B x) s.1 s.2.2.2.1) _ (fun s => 20000 - s.2.1.toNatClampNeg) ?_ N (c0, 0, pr, h0, gl) ⟨0, by omega, rfl, ht, H0⟩ (by show 20000 - _ < N; omega)
  rintro ⟨x2, x3, x4, x5, x6⟩ ⟨x, hx, e, t, H⟩
  have e : x3 = nI x := e
  subst e
  have t : tabC x4 x6 := t
  have H : HI T pts (cnt P A B x) x2 x5 := H
  dsimp only [mX3_findHalves_b17, mi_let]
  by_cases k : P ≤ x
  · right
    rw [if_pos (nI_le k (by omega))]
    have : x = P := by omega
    subst this
    exact ⟨_, rfl, H, t⟩
  · left
    rw [if_neg (nI_ge (by omega) (by omega))]
    have hxP : x < P := by omega
    have ca := cnt_at (A := A) (B := B) hxP
    have cs : cnt P A B (x + 1) = cnt P A B x + wt P (cub P A B x) := rfl
    have cm : cnt P A B (x + 1) ≤ cnt P A B P := cnt_mono P A B (by omega)
    have dn : 20000 - (nI x + 1).toNatClampNeg < 20000 - (nI x).toNatClampNeg := by rw [nI_1, nI_clamp (by omega), nI_clamp (by omega)]; omega
    -- the points over x
    have blk : (wt P (cub P A B x) = 0 ∧ ∀ r, r < P → ¬ r * r % P = cub P A B x) ∨ (wt P (cub P A B x) = 1 ∧ isR P (cub P A B x) 0 ∧ pts (cnt P A B x) = nI (16384 * x + 0)) ∨ ∃ r, 0 < r ∧ wt P (cub P A B x) = 2 ∧ isR P (cub P A B x) r ∧ pts (cnt P A B x) = nI (16384 * x + r) ∧ pts (cnt P A B x + 1) = nI (16384 * x + P - r) := by
      by_cases w0 : 0 < wt P (cub P A B x)
      · obtain ⟨r, hr⟩ := wt_root (A := A) (B := B) h1 w0
        have Lx := (hL.2 x hxP).2 r hr
        rcases wt_of_isR hr h1 with ⟨z, w⟩ | ⟨z, w⟩
        · subst z; exact Or.inr (Or.inl ⟨w, hr, Lx.1⟩)
        · exact Or.inr (Or.inr ⟨r, z, w, hr, Lx.1, Lx.2 z⟩)
      · refine Or.inl ⟨by omega, fun r hr e => ?_⟩
        obtain ⟨r', hr'⟩ := root_of hr e
        rcases wt_of_isR hr' h1 with ⟨z, w⟩ | ⟨z, w⟩ <;> omega
    rcases mayH hc N hu hxP with m | ⟨m, no⟩
    · rw [m]; simp only [Option.bind_some]; rw [if_neg (show ¬ (1 : Int32) = 0 by decide)]
      obtain ⟨g', t', q⟩ := lesserC (N := N) (by omega) h5 hP hA hB hxP t
      rcases blk with ⟨w, no⟩ | ⟨w, hr, p0⟩ | ⟨r, r0, w, hr, p0, p1⟩
      · rcases q with ⟨r, hr, -⟩ | ⟨-, e⟩
        · exact absurd hr.2.1 (no r hr.1)
        · rw [e]; simp only [Option.bind_some]
          rw [show mX0_opposite N (nI P) (-1) = some (-1) from rfl]; simp only [Option.bind_some]
          rw [if_pos trivial, if_pos trivial]
          refine ⟨_, rfl, ⟨x + 1, by omega, nI_1 x, t', ?_⟩, dn⟩
          rw [cs, w]; exact H
      · rcases q with ⟨r, hr2, e⟩ | ⟨no, -⟩
        · have := isR_un hr hr2
          subst this
          obtain ⟨w1, s1, s2⟩ := sT (cnt P A B x) (by omega)
          rw [p0] at s1
          rw [e]; simp only [Option.bind_some]
          rw [opp0 N hP hxP]; simp only [Option.bind_some]
          rw [if_neg (pt_ne (by omega) (by omega)), s1]; simp only [Option.bind_some]
          by_cases c1 : w1 = u
          · obtain ⟨c', h', k1, k2⟩ := HI_y N H (s2.mp c1) (ct4 _ (by omega) (s2.mp c1))
            rw [p0] at k1
            rw [if_pos c1, k1]; simp only [Option.bind_some]; rw [if_pos trivial]
            refine ⟨_, rfl, ⟨x + 1, by omega, nI_1 x, t', ?_⟩, dn⟩
            rw [cs, w]; exact k2
          · rw [if_neg c1, if_pos trivial]
            refine ⟨_, rfl, ⟨x + 1, by omega, nI_1 x, t', ?_⟩, dn⟩
            rw [cs, w]; exact HI_n H (fun z => c1 (s2.mpr z))
        · exact absurd hr.2.1 (no 0 (by omega))
      · rcases q with ⟨r', hr2, e⟩ | ⟨no, -⟩
        · have := isR_un hr hr2
          subst this
          have rP := hr.1
          have ne : ¬ nI (16384 * x + P - r) = nI (16384 * x + r) := fun z => by
            have := (nI_eq (by omega) (by omega)).mp z; omega
          obtain ⟨w1, s1, s2⟩ := sT (cnt P A B x) (by omega)
          obtain ⟨w2, s3, s4⟩ := sT (cnt P A B x + 1) (by omega)
          rw [p0] at s1
          rw [p1] at s3
          rw [e]; simp only [Option.bind_some]
          rw [oppN N hP hxP rP r0]; simp only [Option.bind_some]
          rw [if_neg (pt_ne (by omega) (by omega)), s1]; simp only [Option.bind_some]
          by_cases c1 : w1 = u
          · obtain ⟨c', h', k1, k2⟩ := HI_y N H (s2.mp c1) (ct4 _ (by omega) (s2.mp c1))
            rw [p0] at k1
            rw [if_pos c1, k1]; simp only [Option.bind_some]; rw [if_neg ne, s3]; simp only [Option.bind_some]
            by_cases c2 : w2 = u
            · obtain ⟨c2', h2', k3, k4⟩ := HI_y N k2 (s4.mp c2) (ct4 _ (by omega) (s4.mp c2))
              rw [p1] at k3
              rw [if_pos c2, k3]; simp only [Option.bind_some]
              refine ⟨_, rfl, ⟨x + 1, by omega, nI_1 x, t', ?_⟩, dn⟩
              rw [cs, w]; exact k4
            · rw [if_neg c2]
              refine ⟨_, rfl, ⟨x + 1, by omega, nI_1 x, t', ?_⟩, dn⟩
              rw [cs, w]; exact HI_n k2 (fun z => c2 (s4.mpr z))
          · have k2 := HI_n H (fun z => c1 (s2.mpr z))
            rw [if_neg c1, if_neg ne, s3]; simp only [Option.bind_some]
            by_cases c2 : w2 = u
            · obtain ⟨c2', h2', k3, k4⟩ := HI_y N k2 (s4.mp c2) (ct4 _ (by omega) (s4.mp c2))
              rw [p1] at k3
              rw [if_pos c2, k3]; simp only [Option.bind_some]
              refine ⟨_, rfl, ⟨x + 1, by omega, nI_1 x, t', ?_⟩, dn⟩
              rw [cs, w]; exact k4
            · rw [if_neg c2]
              refine ⟨_, rfl, ⟨x + 1, by omega, nI_1 x, t', ?_⟩, dn⟩
              rw [cs, w]; exact HI_n k2 (fun z => c2 (s4.mpr z))
        · exact absurd hr.2.1 (no r hr.1)
    · rw [m]; simp only [Option.bind_some]; rw [if_pos trivial]
      refine ⟨_, rfl, ⟨x + 1, by omega, nI_1 x, t, ?_⟩, dn⟩
      have nT : ∀ j y, j < cnt P A B P → y < P → pts j = nI (16384 * x + y) → ¬ T j := fun j y hj hy e z => by
        rw [← eT] at z
        have p := hW j hj
        rw [e] at p
        rcases p with ⟨p, -⟩ | ⟨x', y', hx', hy', p, q⟩
        · exact nI_m1 (by omega) p
        · have := (nI_eq (by omega) (by omega)).mp p
          have e1 : x' = x := by omega
          subst e1
          exact no (W j) y' q z
      rcases blk with ⟨w, -⟩ | ⟨w, hr, p0⟩ | ⟨r, r0, w, hr, p0, p1⟩
      · rw [cs, w]; exact H
      · rw [cs, w]; exact HI_n H (nT _ 0 (by omega) (by omega) p0)
      · have rP := hr.1
        rw [cs, w]; exact HI_n (HI_n H (nT _ r (by omega) rP p0)) (nT _ (P - r) (by omega) (by omega) (p1.trans (by congr 1; omega)))
