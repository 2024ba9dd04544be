/-! what the reference answers: every call comes to an end, and its state stays one -/
theorem T_root {N : Nat} (hN : 2 ^ 64 ≤ N) {cu : Int32} {ps as bs : Nat → Int32} (hS : ST cu ps as bs) {p a b rt pm : Int32} {f g pts ah : Nat → Int32} (hC : CUR p a b rt pm f g pts ah) (c : Int32) (x : Int32) : ∃ r p1 a1 b1 rt1 pm1 f1 g1, mX6_root N p a b rt pm cu f g ps as bs c x = some (r, p1, a1, b1, rt1, pm1, f1, g1) ∧ CUR p1 a1 b1 rt1 pm1 f1 g1 pts ah := by
  unfold mX6_root
  rcases has_spec N (by omega) hS hC c with e | ⟨P, A, B, pm', f', g', e, hCU, hix⟩
  · rw [e]; simp only [Option.bind_some]; rw [if_pos trivial]; exact ⟨_, _, _, _, _, _, _, _, rfl, hC⟩
  · have h1 := hCU.pos.1
    have hP := hCU.pos.2.1
    have fin : ∀ r0 : Int32, ∃ r p1 a1 b1 rt1 pm1 f1 g1, some (r0, nI P, nI A, nI B, nI P, pm', f', g') = some (r, p1, a1, b1, rt1, pm1, f1, g1) ∧ CUR p1 a1 b1 rt1 pm1 f1 g1 pts ah := fun r0 => ⟨_, _, _, _, _, _, _, _, rfl, Or.inr ⟨P, A, B, hCU⟩⟩
    rw [e]; simp only [Option.bind_some]; rw [if_neg (by decide)]
    simp only [mulE N h1 hP, modE N h1 hP, rightE N h1 hP, sumE N h1 hP, multE hN h1 hP, powE hN h1 hP, negE, isPE N h1 hP, inE, modIx h1 hP, rightIx N h1 hP, Option.bind_some, mi_let, if_false, leastE hN h1 hP]
    repeat' split
    all_goals exact fin _
theorem T_inverse {N : Nat} (hN : 2 ^ 64 ≤ N) {cu : Int32} {ps as bs : Nat → Int32} (hS : ST cu ps as bs) {p a b rt pm : Int32} {f g pts ah : Nat → Int32} (hC : CUR p a b rt pm f g pts ah) (c : Int32) (x : Int32) : ∃ r p1 a1 b1 rt1 pm1 f1 g1, mX6_inverse N p a b rt pm cu f g ps as bs c x = some (r, p1, a1, b1, rt1, pm1, f1, g1) ∧ CUR p1 a1 b1 rt1 pm1 f1 g1 pts ah := by
  unfold mX6_inverse
  rcases has_spec N (by omega) hS hC c with e | ⟨P, A, B, pm', f', g', e, hCU, hix⟩
  · rw [e]; simp only [Option.bind_some]; rw [if_pos trivial]; exact ⟨_, _, _, _, _, _, _, _, rfl, hC⟩
  · have h1 := hCU.pos.1
    have hP := hCU.pos.2.1
    have fin : ∀ r0 : Int32, ∃ r p1 a1 b1 rt1 pm1 f1 g1, some (r0, nI P, nI A, nI B, nI P, pm', f', g') = some (r, p1, a1, b1, rt1, pm1, f1, g1) ∧ CUR p1 a1 b1 rt1 pm1 f1 g1 pts ah := fun r0 => ⟨_, _, _, _, _, _, _, _, rfl, Or.inr ⟨P, A, B, hCU⟩⟩
    rw [e]; simp only [Option.bind_some]; rw [if_neg (by decide)]
    simp only [mulE N h1 hP, modE N h1 hP, rightE N h1 hP, sumE N h1 hP, multE hN h1 hP, powE hN h1 hP, negE, isPE N h1 hP, inE, modIx h1 hP, rightIx N h1 hP, Option.bind_some, mi_let, if_false, leastE hN h1 hP]
    repeat' split
    all_goals exact fin _
theorem T_power {N : Nat} (hN : 2 ^ 64 ≤ N) {cu : Int32} {ps as bs : Nat → Int32} (hS : ST cu ps as bs) {p a b rt pm : Int32} {f g pts ah : Nat → Int32} (hC : CUR p a b rt pm f g pts ah) (c : Int32) (x : Int32) (y : Int64) : ∃ r p1 a1 b1 rt1 pm1 f1 g1, mX6_power N p a b rt pm cu f g ps as bs c x y = some (r, p1, a1, b1, rt1, pm1, f1, g1) ∧ CUR p1 a1 b1 rt1 pm1 f1 g1 pts ah := by
  unfold mX6_power
  rcases has_spec N (by omega) hS hC c with e | ⟨P, A, B, pm', f', g', e, hCU, hix⟩
  · rw [e]; simp only [Option.bind_some]; rw [if_pos trivial]; exact ⟨_, _, _, _, _, _, _, _, rfl, hC⟩
  · have h1 := hCU.pos.1
    have hP := hCU.pos.2.1
    have fin : ∀ r0 : Int32, ∃ r p1 a1 b1 rt1 pm1 f1 g1, some (r0, nI P, nI A, nI B, nI P, pm', f', g') = some (r, p1, a1, b1, rt1, pm1, f1, g1) ∧ CUR p1 a1 b1 rt1 pm1 f1 g1 pts ah := fun r0 => ⟨_, _, _, _, _, _, _, _, rfl, Or.inr ⟨P, A, B, hCU⟩⟩
    rw [e]; simp only [Option.bind_some]; rw [if_neg (by decide)]
    simp only [mulE N h1 hP, modE N h1 hP, rightE N h1 hP, sumE N h1 hP, multE hN h1 hP, powE hN h1 hP, negE, isPE N h1 hP, inE, modIx h1 hP, rightIx N h1 hP, Option.bind_some, mi_let, if_false, leastE hN h1 hP]
    repeat' split
    all_goals exact fin _
theorem T_point {N : Nat} (hN : 2 ^ 64 ≤ N) {cu : Int32} {ps as bs : Nat → Int32} (hS : ST cu ps as bs) {p a b rt pm : Int32} {f g pts ah : Nat → Int32} (hC : CUR p a b rt pm f g pts ah) (c : Int32) (x : Int32) (y : Int32) : ∃ r p1 a1 b1 rt1 pm1 f1 g1, mX6_point N p a b rt pm cu f g ps as bs c x y = some (r, p1, a1, b1, rt1, pm1, f1, g1) ∧ CUR p1 a1 b1 rt1 pm1 f1 g1 pts ah := by
  unfold mX6_point
  rcases has_spec N (by omega) hS hC c with e | ⟨P, A, B, pm', f', g', e, hCU, hix⟩
  · rw [e]; simp only [Option.bind_some]; rw [if_pos trivial]; exact ⟨_, _, _, _, _, _, _, _, rfl, hC⟩
  · have h1 := hCU.pos.1
    have hP := hCU.pos.2.1
    have fin : ∀ r0 : Int32, ∃ r p1 a1 b1 rt1 pm1 f1 g1, some (r0, nI P, nI A, nI B, nI P, pm', f', g') = some (r, p1, a1, b1, rt1, pm1, f1, g1) ∧ CUR p1 a1 b1 rt1 pm1 f1 g1 pts ah := fun r0 => ⟨_, _, _, _, _, _, _, _, rfl, Or.inr ⟨P, A, B, hCU⟩⟩
    rw [e]; simp only [Option.bind_some]; rw [if_neg (by decide)]
    simp only [mulE N h1 hP, modE N h1 hP, rightE N h1 hP, sumE N h1 hP, multE hN h1 hP, powE hN h1 hP, negE, isPE N h1 hP, inE, modIx h1 hP, rightIx N h1 hP, Option.bind_some, mi_let, if_false, leastE hN h1 hP]
    repeat' split
    all_goals exact fin _
theorem T_lift {N : Nat} (hN : 2 ^ 64 ≤ N) {cu : Int32} {ps as bs : Nat → Int32} (hS : ST cu ps as bs) {p a b rt pm : Int32} {f g pts ah : Nat → Int32} (hC : CUR p a b rt pm f g pts ah) (c : Int32) (x : Int32) (y : Int32) : ∃ r p1 a1 b1 rt1 pm1 f1 g1, mX6_lift N p a b rt pm cu f g ps as bs c x y = some (r, p1, a1, b1, rt1, pm1, f1, g1) ∧ CUR p1 a1 b1 rt1 pm1 f1 g1 pts ah := by
  unfold mX6_lift
  rcases has_spec N (by omega) hS hC c with e | ⟨P, A, B, pm', f', g', e, hCU, hix⟩
  · rw [e]; simp only [Option.bind_some]; rw [if_pos trivial]; exact ⟨_, _, _, _, _, _, _, _, rfl, hC⟩
  · have h1 := hCU.pos.1
    have hP := hCU.pos.2.1
    have fin : ∀ r0 : Int32, ∃ r p1 a1 b1 rt1 pm1 f1 g1, some (r0, nI P, nI A, nI B, nI P, pm', f', g') = some (r, p1, a1, b1, rt1, pm1, f1, g1) ∧ CUR p1 a1 b1 rt1 pm1 f1 g1 pts ah := fun r0 => ⟨_, _, _, _, _, _, _, _, rfl, Or.inr ⟨P, A, B, hCU⟩⟩
    rw [e]; simp only [Option.bind_some]; rw [if_neg (by decide)]
    simp only [mulE N h1 hP, modE N h1 hP, rightE N h1 hP, sumE N h1 hP, multE hN h1 hP, powE hN h1 hP, negE, isPE N h1 hP, inE, modIx h1 hP, rightIx N h1 hP, Option.bind_some, mi_let, if_false, leastE hN h1 hP]
    repeat' split
    all_goals exact fin _
theorem T_mapped {N : Nat} (hN : 2 ^ 64 ≤ N) {cu : Int32} {ps as bs : Nat → Int32} (hS : ST cu ps as bs) {p a b rt pm : Int32} {f g pts ah : Nat → Int32} (hC : CUR p a b rt pm f g pts ah) (c : Int32) (x : Int32) (y : Int32) : ∃ r p1 a1 b1 rt1 pm1 f1 g1, mX6_mapped N p a b rt pm cu f g ps as bs c x y = some (r, p1, a1, b1, rt1, pm1, f1, g1) ∧ CUR p1 a1 b1 rt1 pm1 f1 g1 pts ah := by
  unfold mX6_mapped
  rcases has_spec N (by omega) hS hC c with e | ⟨P, A, B, pm', f', g', e, hCU, hix⟩
  · rw [e]; simp only [Option.bind_some]; rw [if_pos trivial]; exact ⟨_, _, _, _, _, _, _, _, rfl, hC⟩
  · have h1 := hCU.pos.1
    have hP := hCU.pos.2.1
    have fin : ∀ r0 : Int32, ∃ r p1 a1 b1 rt1 pm1 f1 g1, some (r0, nI P, nI A, nI B, nI P, pm', f', g') = some (r, p1, a1, b1, rt1, pm1, f1, g1) ∧ CUR p1 a1 b1 rt1 pm1 f1 g1 pts ah := fun r0 => ⟨_, _, _, _, _, _, _, _, rfl, Or.inr ⟨P, A, B, hCU⟩⟩
    rw [e]; simp only [Option.bind_some]; rw [if_neg (by decide)]
    simp only [mulE N h1 hP, modE N h1 hP, rightE N h1 hP, sumE N h1 hP, multE hN h1 hP, powE hN h1 hP, negE, isPE N h1 hP, inE, modIx h1 hP, rightIx N h1 hP, Option.bind_some, mi_let, if_false, leastE hN h1 hP]
    repeat' split
    all_goals exact fin _
theorem T_add {N : Nat} (hN : 2 ^ 64 ≤ N) {cu : Int32} {ps as bs : Nat → Int32} (hS : ST cu ps as bs) {p a b rt pm : Int32} {f g pts ah : Nat → Int32} (hC : CUR p a b rt pm f g pts ah) (c : Int32) (x : Int32) (y : Int32) : ∃ r p1 a1 b1 rt1 pm1 f1 g1, mX6_add N p a b rt pm cu f g ps as bs c x y = some (r, p1, a1, b1, rt1, pm1, f1, g1) ∧ CUR p1 a1 b1 rt1 pm1 f1 g1 pts ah := by
  unfold mX6_add
  rcases has_spec N (by omega) hS hC c with e | ⟨P, A, B, pm', f', g', e, hCU, hix⟩
  · rw [e]; simp only [Option.bind_some]; rw [if_pos trivial]; exact ⟨_, _, _, _, _, _, _, _, rfl, hC⟩
  · have h1 := hCU.pos.1
    have hP := hCU.pos.2.1
    have fin : ∀ r0 : Int32, ∃ r p1 a1 b1 rt1 pm1 f1 g1, some (r0, nI P, nI A, nI B, nI P, pm', f', g') = some (r, p1, a1, b1, rt1, pm1, f1, g1) ∧ CUR p1 a1 b1 rt1 pm1 f1 g1 pts ah := fun r0 => ⟨_, _, _, _, _, _, _, _, rfl, Or.inr ⟨P, A, B, hCU⟩⟩
    rw [e]; simp only [Option.bind_some]; rw [if_neg (by decide)]
    simp only [mulE N h1 hP, modE N h1 hP, rightE N h1 hP, sumE N h1 hP, multE hN h1 hP, powE hN h1 hP, negE, isPE N h1 hP, inE, modIx h1 hP, rightIx N h1 hP, Option.bind_some, mi_let, if_false, leastE hN h1 hP]
    repeat' split
    all_goals exact fin _
theorem T_negative {N : Nat} (hN : 2 ^ 64 ≤ N) {cu : Int32} {ps as bs : Nat → Int32} (hS : ST cu ps as bs) {p a b rt pm : Int32} {f g pts ah : Nat → Int32} (hC : CUR p a b rt pm f g pts ah) (c : Int32) (x : Int32) : ∃ r p1 a1 b1 rt1 pm1 f1 g1, mX6_negative N p a b rt pm cu f g ps as bs c x = some (r, p1, a1, b1, rt1, pm1, f1, g1) ∧ CUR p1 a1 b1 rt1 pm1 f1 g1 pts ah := by
  unfold mX6_negative
  rcases has_spec N (by omega) hS hC c with e | ⟨P, A, B, pm', f', g', e, hCU, hix⟩
  · rw [e]; simp only [Option.bind_some]; rw [if_pos trivial]; exact ⟨_, _, _, _, _, _, _, _, rfl, hC⟩
  · have h1 := hCU.pos.1
    have hP := hCU.pos.2.1
    have fin : ∀ r0 : Int32, ∃ r p1 a1 b1 rt1 pm1 f1 g1, some (r0, nI P, nI A, nI B, nI P, pm', f', g') = some (r, p1, a1, b1, rt1, pm1, f1, g1) ∧ CUR p1 a1 b1 rt1 pm1 f1 g1 pts ah := fun r0 => ⟨_, _, _, _, _, _, _, _, rfl, Or.inr ⟨P, A, B, hCU⟩⟩
    rw [e]; simp only [Option.bind_some]; rw [if_neg (by decide)]
    simp only [mulE N h1 hP, modE N h1 hP, rightE N h1 hP, sumE N h1 hP, multE hN h1 hP, powE hN h1 hP, negE, isPE N h1 hP, inE, modIx h1 hP, rightIx N h1 hP, Option.bind_some, mi_let, if_false, leastE hN h1 hP]
    repeat' split
    all_goals exact fin _
theorem T_times {N : Nat} (hN : 2 ^ 64 ≤ N) {cu : Int32} {ps as bs : Nat → Int32} (hS : ST cu ps as bs) {p a b rt pm : Int32} {f g pts ah : Nat → Int32} (hC : CUR p a b rt pm f g pts ah) (c : Int32) (x : Int32) (y : Int64) : ∃ r p1 a1 b1 rt1 pm1 f1 g1, mX6_times N p a b rt pm cu f g ps as bs c x y = some (r, p1, a1, b1, rt1, pm1, f1, g1) ∧ CUR p1 a1 b1 rt1 pm1 f1 g1 pts ah := by
  unfold mX6_times
  rcases has_spec N (by omega) hS hC c with e | ⟨P, A, B, pm', f', g', e, hCU, hix⟩
  · rw [e]; simp only [Option.bind_some]; rw [if_pos trivial]; exact ⟨_, _, _, _, _, _, _, _, rfl, hC⟩
  · have h1 := hCU.pos.1
    have hP := hCU.pos.2.1
    have fin : ∀ r0 : Int32, ∃ r p1 a1 b1 rt1 pm1 f1 g1, some (r0, nI P, nI A, nI B, nI P, pm', f', g') = some (r, p1, a1, b1, rt1, pm1, f1, g1) ∧ CUR p1 a1 b1 rt1 pm1 f1 g1 pts ah := fun r0 => ⟨_, _, _, _, _, _, _, _, rfl, Or.inr ⟨P, A, B, hCU⟩⟩
    rw [e]; simp only [Option.bind_some]; rw [if_neg (by decide)]
    simp only [mulE N h1 hP, modE N h1 hP, rightE N h1 hP, sumE N h1 hP, multE hN h1 hP, powE hN h1 hP, negE, isPE N h1 hP, inE, modIx h1 hP, rightIx N h1 hP, Option.bind_some, mi_let, if_false, leastE hN h1 hP]
    repeat' split
    all_goals exact fin _
theorem T_bound {N : Nat} (hN : 2 ^ 64 ≤ N) {cu : Int32} {ps as bs : Nat → Int32} (hS : ST cu ps as bs) {p a b rt pm : Int32} {f g pts ah : Nat → Int32} (hC : CUR p a b rt pm f g pts ah) (c : Int32) (x : Int32) : ∃ r p1 a1 b1 rt1 pm1 f1 g1, mX6_bound N p a b rt pm cu f g ps as bs c x = some (r, p1, a1, b1, rt1, pm1, f1, g1) ∧ CUR p1 a1 b1 rt1 pm1 f1 g1 pts ah := by
  unfold mX6_bound
  rcases has_spec N (by omega) hS hC c with e | ⟨P, A, B, pm', f', g', e, hCU, hix⟩
  · rw [e]; simp only [Option.bind_some]; rw [if_pos trivial]; exact ⟨_, _, _, _, _, _, _, _, rfl, hC⟩
  · have h1 := hCU.pos.1
    have hP := hCU.pos.2.1
    have fin : ∀ r0 : Int32, ∃ r p1 a1 b1 rt1 pm1 f1 g1, some (r0, nI P, nI A, nI B, nI P, pm', f', g') = some (r, p1, a1, b1, rt1, pm1, f1, g1) ∧ CUR p1 a1 b1 rt1 pm1 f1 g1 pts ah := fun r0 => ⟨_, _, _, _, _, _, _, _, rfl, Or.inr ⟨P, A, B, hCU⟩⟩
    rw [e]; simp only [Option.bind_some]; rw [if_neg (by decide)]
    simp only [mulE N h1 hP, modE N h1 hP, rightE N h1 hP, sumE N h1 hP, multE hN h1 hP, powE hN h1 hP, negE, isPE N h1 hP, inE, modIx h1 hP, rightIx N h1 hP, Option.bind_some, mi_let, if_false, leastE hN h1 hP]
    repeat' split
    all_goals exact fin _
