theorem nI_m1 {n : Nat} (h : n < 2 ^ 31) : ¬ nI n = -1 := fun e => by
  have := congrArg Int32.toInt e
  rw [nI_toInt h, show (-1 : Int32).toInt = -1 by decide] at this
  omega
theorem oppL (N : Nat) {P x y : Nat} (hP : P ≤ 10007) (hx : x < P) (hy : y < P) (y0 : 0 < y) : mX0_opposite N (nI P) (nI (16384 * x + y)) = some (nI (16384 * x + (P - y))) := by
  unfold mX0_opposite
  rw [if_neg (pt_ne (by omega) (by omega)), (xOf_nI N (x := x) (y := y) (by omega) (by omega)).2]; simp only [Option.bind_some]
  rw [if_neg (nI_ne0 y0 (by omega)), (xOf_nI N (x := x) (y := y) (by omega) (by omega)).1]; simp only [Option.bind_some]
  have s2 : nI P - nI y = nI (P - y) := by rw [nI_zI, nI_zI, zI_sub, nI_zI]; congr 1; omega
  rw [s2, pair_nI N (by omega) (by omega)]
  rfl
theorem V_lift {N : Nat} (hN : 2 ^ 64 ≤ N) {P A B : Nat} {p a b rt pm cu : Int32} {f g pts ah ps as bs : Nat → Int32} {c : Int32} {pm1 : Int32} {f1 g1 : Nat → Int32} (hh : mX6_has N p a b rt pm cu f g ps as bs c = some (1, nI P, nI A, nI B, nI P, pm1, f1, g1)) (hU : CU P A B (nI P) (nI A) (nI B) (nI P) pm1 f1 g1 pts ah) {pr : Int32} {gl : Nat → Int32} (ht : tabC pr gl) (x o : Int32) : ∃ r pr1 gl1, mX5_lift_s N pr gl (nI P) (nI A) (nI B) c x o = some (r, pr1, gl1) ∧ tabC pr1 gl1 ∧ mX6_lift N p a b rt pm cu f g ps as bs c x o = some (r, nI P, nI A, nI B, nI P, pm1, f1, g1) := by
  obtain ⟨h1, hP, h5, hp, hA, hB⟩ := hU.pos
  unfold mX5_lift_s mX6_lift
  rw [hh]; simp only [Option.bind_some]; rw [if_neg (show ¬ (1 : Int32) = 0 by decide)]
  rcases below2 N x h1 hP with ⟨X, rfl, hX, e1, e2⟩ | ⟨e1, e2⟩
  · rw [e1, e2]; simp only [Option.bind_some]; rw [if_neg (show ¬ (1 : Int32) = 0 by decide), if_neg (show ¬ (1 : Int32) = 0 by decide)]
    have hv := cub_lt P A B X h1
    obtain ⟨gl1, t, q⟩ := lesserC (N := N) (by omega) h5 hP hA hB hX ht
    rw [rightM N P A B _ h1 hP hA hB hX]; simp only [Option.bind_some]
    rw [if_neg (ix_nI (by omega) (by omega)), nI_clamp (by omega)]; dsimp only [mi_let]
    rcases q with ⟨r, hr, e⟩ | ⟨no, e⟩
    · rcases rt_cases hU.roots hv with ⟨-, no1⟩ | ⟨r1, e1, hr1⟩
      · exact absurd hr.2.1 (no1 r hr.1)
      · have er := isR_un hr1 hr
        subst er
        have hrP := hr.1
        have e3 : ∀ y, y < P → (16384 : Int32) * nI X + nI y = nI (16384 * X + y) := fun y hy => ptz hP hX hy
        rw [e, e1]; simp only [Option.bind_some]
        rw [if_neg (pt_ne (x := X) (y := r1) (by omega) (by omega)), if_neg (nI_m1 (n := r1) (by omega)), (xOf_nI N (x := X) (y := r1) (by omega) (by omega)).2]; simp only [Option.bind_some]
        by_cases r0 : r1 = 0
        · subst r0
          rw [if_pos (show nI 0 = 0 from rfl), if_pos (show nI 0 = 0 from rfl)]
          by_cases o0 : o = 0
          · rw [if_pos o0, if_pos o0, if_neg (show ¬ mi_rem (nI 0) 2 = 1 by decide), if_neg (show ¬ mi_rem (nI 0) 2 = 1 by decide), if_pos o0.symm, if_pos o0.symm, e3 0 (by omega)]
            exact ⟨_, _, _, rfl, t, rfl⟩
          · rw [if_neg o0, if_neg o0]; exact ⟨_, _, _, rfl, t, rfl⟩
        · have rz : ¬ nI r1 = 0 := nI_ne0 (by omega) (by omega)
          have e5 : nI P - nI r1 = nI (P - r1) := by rw [nI_zI, nI_zI, zI_sub, nI_zI]; congr 1; omega
          rw [if_neg rz, if_neg rz, e5, e3 r1 hrP, e3 (P - r1) (by omega), oppL N hP hX hrP (by omega)]
          by_cases k1 : mi_rem (nI r1) 2 = 1
          · rw [if_pos k1, if_pos k1]
            by_cases o1 : 1 = o
            · rw [if_pos o1, if_pos o1]; exact ⟨_, _, _, rfl, t, rfl⟩
            · rw [if_neg o1, if_neg o1]; exact ⟨_, _, _, rfl, t, rfl⟩
          · rw [if_neg k1, if_neg k1]
            by_cases o1 : 0 = o
            · rw [if_pos o1, if_pos o1]; exact ⟨_, _, _, rfl, t, rfl⟩
            · rw [if_neg o1, if_neg o1]; exact ⟨_, _, _, rfl, t, rfl⟩
    · rcases rt_cases hU.roots hv with ⟨e1, -⟩ | ⟨r1, -, hr1⟩
      · rw [e, e1]; simp only [Option.bind_some]; rw [if_pos trivial, if_pos trivial]
        exact ⟨_, _, _, rfl, t, rfl⟩
      · exact absurd hr1.2.1 (no r1 hr1.1)
  · rw [e1, e2]; exact ⟨_, _, _, rfl, ht, rfl⟩
/-- the answer of near -/
def isNr (P A B s : Nat) (w : Int32) : Prop := (w = -1 ∧ ∀ i, i < P → ∀ r, r < P → ¬ r * r % P = cub P A B ((s + i) % P)) ∨ ∃ i r, i < P ∧ isR P (cub P A B ((s + i) % P)) r ∧ w = nI (16384 * ((s + i) % P) + r) ∧ ∀ j, j < i → ∀ r, r < P → ¬ r * r % P = cub P A B ((s + j) % P)
theorem isNr_un {P A B s : Nat} {w w' : Int32} (h : isNr P A B s w) (h' : isNr P A B s w') : w = w' := by
  rcases h with ⟨e, n⟩ | ⟨i, r, hi, hr, e, n⟩
  · rcases h' with ⟨e', -⟩ | ⟨i', r', hi', hr', -, -⟩
    · rw [e, e']
    · exact absurd hr'.2.1 (n i' hi' r' hr'.1)
  · rcases h' with ⟨-, n'⟩ | ⟨i', r', hi', hr', e', n'⟩
    · exact absurd hr.2.1 (n' i hi r hr.1)
    · rcases Nat.lt_trichotomy i i' with q | q | q
      · exact absurd hr.2.1 (n' i q r hr.1)
      · subst q
        rw [e, e', isR_un hr hr']
      · exact absurd hr'.2.1 (n i' q r' hr'.1)
theorem nearC {N : Nat} (hN : 2 ^ 64 ≤ N) {P A B : Nat} (h5 : 5 ≤ P) (hP : P ≤ 10007) (hA : A < P) (hB : B < P) {pr : Int32} {gl : Nat → Int32} (ht : tabC pr gl) {s : Nat} (hs : s < P) : ∃ o, mi_run (mX5_near_s_b26 N (nI P) (nI s) (nI A) (nI B)) N (0, pr, gl) = some o ∧ (match o with | .inl y => tabC y.2.1 y.2.2 ∧ isNr P A B s (-1) | .inr y => tabC y.2.1 y.2.2 ∧ isNr P A B s y.1) := by
  refine mi_run_ok (mX5_near_s_b26 N (nI P) (nI s) (nI A) (nI B)) (fun t => ∃ i, t.1 = nI i ∧ i ≤ P ∧ tabC t.2.1 t.2.2 ∧ ∀ j, j < i → ∀ r, r < P → ¬ r * r % P = cub P A B ((s + j) % P)) _ (fun t => 15000 - t.1.toNatClampNeg) ?_ N (0, pr, gl) ⟨0, rfl, by omega, ht, fun j hj => absurd hj (by omega)⟩ (by show 15000 - _ < N; omega)
  rintro ⟨x3, x4, x5⟩ ⟨i, e1, hi, htt, hn⟩
  have e1' : x3 = nI i := e1
  subst e1'
  dsimp only [mX5_near_s_b26, mi_let]
  by_cases k : i < P
  · have hx : (s + i) % P < P := Nat.mod_lt _ (by omega)
    rw [if_neg (nI_ge k (by omega)), if_neg (nz_nI (by omega) hP), nI_add, rem_nI (by omega) (by omega) (by omega)]
    obtain ⟨g', t', q⟩ := lesserC (N := N) (by omega) h5 hP hA hB hx (show tabC x4 x5 from htt)
    rcases q with ⟨r, hr, e⟩ | ⟨no, e⟩
    · right
      have := hr.1
      rw [e]; simp only [Option.bind_some]
      rw [if_neg (pt_ne (by omega) (by omega))]
      exact ⟨_, rfl, t', Or.inr ⟨i, r, k, hr, rfl, hn⟩⟩
    · left
      rw [e]; simp only [Option.bind_some]; rw [if_pos trivial]
      refine ⟨_, rfl, ⟨i + 1, nI_1 i, by omega, t', fun j hj => ?_⟩, ?_⟩
      · by_cases z : j = i
        · subst z; exact no
        · exact hn j (by omega)
      · show 15000 - (nI i + 1).toNatClampNeg < 15000 - (nI i).toNatClampNeg
        rw [nI_1, nI_clamp (by omega), nI_clamp (by omega)]; omega
  · right
    rw [if_pos (nI_le (by omega) (by omega))]
    refine ⟨_, rfl, htt, Or.inl ⟨rfl, fun j hj => hn j (by omega)⟩⟩
theorem nearR {N : Nat} (hN : 2 ^ 64 ≤ N) {P A B : Nat} (h5 : 5 ≤ P) (hP : P ≤ 10007) (hA : A < P) (hB : B < P) {g : Nat → Int32} (hg : rootTab P g) {s : Nat} (hs : s < P) (u5 u6 : Int32) (f : Nat → Int32) : ∃ o, mi_run (mX6_near_b21 N (nI P) (nI A) (nI B) g u5 u6 f) N (nI s, 0) = some o ∧ (match o with | .inl _ => isNr P A B s (-1) | .inr y => ∃ w, y = (w, nI P, nI A, nI B, u5, u6, f, g) ∧ isNr P A B s w) := by
  refine mi_run_ok (mX6_near_b21 N (nI P) (nI A) (nI B) g u5 u6 f) (fun t => ∃ i, t.2 = nI i ∧ t.1 = nI ((s + i) % P) ∧ i ≤ P ∧ ∀ j, j < i → ∀ r, r < P → ¬ r * r % P = cub P A B ((s + j) % P)) _ (fun t => 15000 - t.2.toNatClampNeg) ?_ N (nI s, 0) ⟨0, rfl, by show nI s = _; rw [Nat.add_zero, Nat.mod_eq_of_lt hs], by omega, fun j hj => absurd hj (by omega)⟩ (by show 15000 - _ < N; omega)
  rintro ⟨x3, x4⟩ ⟨i, e1, e2, hi, hn⟩
  have e1' : x4 = nI i := e1
  have e2' : x3 = nI ((s + i) % P) := e2
  subst e1' e2'
  dsimp only [mX6_near_b21, mi_let]
  by_cases k : i < P
  · have hx : (s + i) % P < P := Nat.mod_lt _ (by omega)
    have hv := cub_lt P A B ((s + i) % P) (by omega)
    rw [if_neg (nI_ge k (by omega)), rightM N P A B _ (by omega) hP hA hB hx]; simp only [Option.bind_some]
    rw [if_neg (ix_nI (by omega) (by omega)), nI_clamp (by omega)]
    rcases rt_cases hg hv with ⟨e, no⟩ | ⟨r, e, hr⟩
    · left
      rw [if_pos e, nI_1]
      have nx : ∀ j, j < i + 1 → ∀ r, r < P → ¬ r * r % P = cub P A B ((s + j) % P) := fun j hj => by
        by_cases z : j = i
        · subst z; exact no
        · exact hn j (by omega)
      have ms : 15000 - (nI i + 1).toNatClampNeg < 15000 - (nI i).toNatClampNeg := by
        rw [nI_1, nI_clamp (by omega), nI_clamp (by omega)]; omega
      by_cases w : (s + i) % P + 1 = P
      · rw [if_pos (by rw [w])]
        refine ⟨_, rfl, ⟨i + 1, nI_1 i, ?_, by omega, nx⟩, ms⟩
        show (0 : Int32) = nI _
        rw [show (s + (i + 1)) % P = 0 by rw [← Nat.add_assoc, Nat.add_mod (s + i) 1, Nat.mod_eq_of_lt (show 1 < P by omega), w, Nat.mod_self]]; rfl
      · rw [if_neg (fun z => w ((nI_eq (by omega) (by omega)).mp z))]
        refine ⟨_, rfl, ⟨i + 1, nI_1 i, ?_, by omega, nx⟩, ms⟩
        show nI ((s + i) % P + 1) = nI _
        congr 1
        rw [← Nat.add_assoc, Nat.add_mod (s + i) 1, Nat.mod_eq_of_lt (show 1 < P by omega), Nat.mod_eq_of_lt (show (s + i) % P + 1 < P by omega)]
    · right
      have := hr.1
      rw [e, if_neg (nI_m1 (by omega)), if_neg (show ¬ (nI (cub P A B ((s + i) % P)) < 0 ∨ 10008 ≤ cub P A B ((s + i) % P)) from fun z => z.elim (nI_pos (by omega)) (fun z => by omega)), ptz hP hx hr.1]
      exact ⟨_, rfl, _, rfl, Or.inr ⟨i, r, k, hr, rfl, hn⟩⟩
  · right
    rw [if_pos (nI_le (by omega) (by omega))]
    exact ⟨_, rfl, Or.inl ⟨rfl, fun j hj => hn j (by omega)⟩⟩
theorem V_near {N : Nat} (hN : 2 ^ 64 ≤ N) {P A B : Nat} {p a b rt pm cu : Int32} {f g pts ah ps as bs : Nat → Int32} {c : Int32} {pm1 : Int32} {f1 g1 : Nat → Int32} (hh : mX6_has N p a b rt pm cu f g ps as bs c = some (1, nI P, nI A, nI B, nI P, pm1, f1, g1)) (hU : CU P A B (nI P) (nI A) (nI B) (nI P) pm1 f1 g1 pts ah) {pr : Int32} {gl : Nat → Int32} (ht : tabC pr gl) (x : Int32) : ∃ r pr1 gl1, mX5_near_s N pr gl (nI P) (nI A) (nI B) c x = some (r, pr1, gl1) ∧ tabC pr1 gl1 ∧ mX6_near N p a b rt pm cu f g ps as bs c x = some (r, nI P, nI A, nI B, nI P, pm1, f1, g1) := by
  obtain ⟨h1, hP, h5, hp, hA, hB⟩ := hU.pos
  unfold mX5_near_s mX6_near
  rw [hh]; simp only [Option.bind_some]; rw [if_neg (show ¬ (1 : Int32) = 0 by decide)]
  have hv := modF_lt h1 x.toInt64
  rw [fmodC N h1 hP, modE N h1 hP]; simp only [Option.bind_some]
  obtain ⟨o, eo, ho⟩ := nearC hN h5 hP hA hB ht hv
  obtain ⟨o', eo', ho'⟩ := nearR hN h5 hP hA hB hU.roots hv (nI P) pm1 f1
  rw [eo, eo']; simp only [Option.bind_some]
  rcases o with ⟨y1, y2, y3⟩ | ⟨y1, y2, y3⟩
  · obtain ⟨t, q⟩ := ho
    rcases o' with ⟨z1, z2⟩ | z
    · exact ⟨_, _, _, rfl, t, rfl⟩
    · obtain ⟨w, e, q'⟩ := ho'
      have := isNr_un q q'
      subst this e
      exact ⟨_, _, _, rfl, t, rfl⟩
  · obtain ⟨t, q⟩ := ho
    rcases o' with ⟨z1, z2⟩ | z
    · have := isNr_un q ho'
      have y : y1 = -1 := this
      subst y
      exact ⟨_, _, _, rfl, t, rfl⟩
    · obtain ⟨w, e, q'⟩ := ho'
      have := isNr_un q q'
      have y : y1 = w := this
      subst y e
      exact ⟨_, _, _, rfl, t, rfl⟩
