/-! sums in a ring -/
def rs {R : Type} [mRng R] : Nat → (Nat → R) → R
  | 0, _ => 0
  | n + 1, f => rs n f + f n
theorem rs_ext {R : Type} [mRng R] {f g : Nat → R} : ∀ {n : Nat}, (∀ i, i < n → f i = g i) → rs n f = rs n g
  | 0, _ => rfl
  | n + 1, h => by
    show rs n f + f n = rs n g + g n
    rw [rs_ext (fun i hi => h i (Nat.lt_succ_of_lt hi)), h n (Nat.lt_succ_self n)]
theorem rs_add {R : Type} [mRng R] (f g : Nat → R) : ∀ n : Nat, rs n (fun i => f i + g i) = rs n f + rs n g
  | 0 => by show (0 : R) = 0 + 0; grind
  | n + 1 => by
    show rs n (fun i => f i + g i) + (f n + g n) = (rs n f + f n) + (rs n g + g n)
    rw [rs_add f g n]; grind
theorem rs_mul {R : Type} [mRng R] (k : R) (f : Nat → R) : ∀ n : Nat, rs n (fun i => k * f i) = k * rs n f
  | 0 => by show (0 : R) = k * 0; grind
  | n + 1 => by
    show rs n (fun i => k * f i) + k * f n = k * (rs n f + f n)
    rw [rs_mul k f n]; grind
theorem rs_mulr {R : Type} [mRng R] (k : R) (f : Nat → R) (n : Nat) : rs n (fun i => f i * k) = rs n f * k := by
  rw [show (fun i => f i * k) = (fun i => k * f i) from funext (fun i => by grind), rs_mul]; grind
theorem rs_zero {R : Type} [mRng R] : ∀ n : Nat, rs n (fun _ => (0 : R)) = 0
  | 0 => rfl
  | n + 1 => by show rs n (fun _ => (0 : R)) + 0 = 0; rw [rs_zero n]; grind
theorem rs_z {R : Type} [mRng R] {f : Nat → R} {n : Nat} (h : ∀ i, i < n → f i = 0) : rs n f = 0 := by
  rw [rs_ext (g := fun _ => 0) h, rs_zero]
theorem rs_shift {R : Type} [mRng R] (f : Nat → R) : ∀ n : Nat, rs (n + 1) f = f 0 + rs n (fun i => f (i + 1))
  | 0 => by show 0 + f 0 = f 0 + 0; grind
  | n + 1 => by
    have := rs_shift f n
    show rs (n + 1) f + f (n + 1) = f 0 + (rs n (fun i => f (i + 1)) + f (n + 1))
    rw [this]; grind
theorem rs_swap {R : Type} [mRng R] (f : Nat → Nat → R) (m : Nat) : ∀ n : Nat, rs n (fun i => rs m (fun j => f i j)) = rs m (fun j => rs n (fun i => f i j))
  | 0 => (rs_zero m).symm
  | n + 1 => by
    show rs n (fun i => rs m (fun j => f i j)) + rs m (fun j => f n j) = rs m (fun j => rs n (fun i => f i j) + f n j)
    rw [rs_swap f m n, ← rs_add]
theorem rs_le {R : Type} [mRng R] {f : Nat → R} {m : Nat} : ∀ {n : Nat}, m ≤ n → (∀ i, m ≤ i → i < n → f i = 0) → rs n f = rs m f
  | 0, hm, _ => by rw [Nat.le_zero.mp hm]
  | n + 1, hm, h => by
    by_cases e : m = n + 1
    · rw [e]
    · show rs n f + f n = _
      rw [h n (by omega) (Nat.lt_succ_self n), rs_le (m := m) (n := n) (by omega) (fun i h1 h2 => h i h1 (by omega))]; grind
theorem rs_one {R : Type} [mRng R] {f : Nat → R} {u : Nat} : ∀ {n : Nat}, u < n → (∀ i, i < n → i ≠ u → f i = 0) → rs n f = f u
  | 0, hu, _ => absurd hu (Nat.not_lt_zero u)
  | n + 1, hu, h => by
    show rs n f + f n = f u
    by_cases e : n = u
    · subst e
      rw [rs_z (fun i hi => h i (by omega) (by omega))]; grind
    · rw [rs_one (u := u) (n := n) (by omega) (fun i hi => h i (by omega)), h n (by omega) e]; grind
theorem rs_rev {R : Type} [mRng R] : ∀ (n : Nat) (f : Nat → R), rs (n + 1) (fun i => f (n - i)) = rs (n + 1) f
  | 0, f => rfl
  | n + 1, f => by
    rw [rs_shift (fun i => f (n + 1 - i)) (n + 1)]
    have e : rs (n + 1) (fun i => f (n + 1 - (i + 1))) = rs (n + 1) (fun i => f (n - i)) := rs_ext (fun i _ => by rw [show n + 1 - (i + 1) = n - i by omega])
    show f (n + 1 - 0) + rs (n + 1) (fun i => f (n + 1 - (i + 1))) = rs (n + 1) f + f (n + 1)
    rw [e, rs_rev n f, Nat.sub_zero]; grind
theorem rs_tri {R : Type} [mRng R] (h : Nat → Nat → R) : ∀ n : Nat, rs (n + 1) (fun i => rs (i + 1) (fun j => h i j)) = rs (n + 1) (fun j => rs (n - j + 1) (fun k => h (j + k) j))
  | 0 => rfl
  | n + 1 => by
    have e1 : rs (n + 1 + 1) (fun j => rs (n + 1 - j + 1) (fun k => h (j + k) j)) = rs (n + 1) (fun j => rs (n - j + 1) (fun k => h (j + k) j) + h (n + 1) j) + h (n + 1) (n + 1) := by
      show rs (n + 1) (fun j => rs (n + 1 - j + 1) (fun k => h (j + k) j)) + rs (n + 1 - (n + 1) + 1) (fun k => h (n + 1 + k) (n + 1)) = _
      congr 1
      · refine rs_ext (fun j hj => ?_)
        rw [show n + 1 - j + 1 = (n - j + 1) + 1 by omega]
        show rs (n - j + 1) (fun k => h (j + k) j) + h (j + (n - j + 1)) j = _
        rw [show j + (n - j + 1) = n + 1 by omega]
      · rw [show n + 1 - (n + 1) + 1 = 0 + 1 by omega]
        show 0 + h (n + 1 + 0) (n + 1) = _
        rw [Nat.add_zero]; grind
    rw [e1, rs_add, ← rs_tri h n]
    show rs (n + 1) (fun i => rs (i + 1) (fun j => h i j)) + (rs (n + 1) (fun j => h (n + 1) j) + h (n + 1) (n + 1)) = _
    grind
/-! sequences with an end, and their product -/
def sq_cv {F : Type} [mRng F] (c d : Nat → F) : Nat → F := fun n => rs (n + 1) (fun i => c i * d (n - i))
theorem sq_comm {F : Type} [mRng F] (c d : Nat → F) : sq_cv c d = sq_cv d c := by
  funext n
  show rs (n + 1) (fun i => c i * d (n - i)) = rs (n + 1) (fun i => d i * c (n - i))
  rw [← rs_rev n (fun i => d i * c (n - i))]
  refine rs_ext (fun i hi => ?_)
  show c i * d (n - i) = d (n - i) * c (n - (n - i))
  rw [show n - (n - i) = i by omega]; grind
theorem sq_assoc {F : Type} [mRng F] (c d e : Nat → F) : sq_cv (sq_cv c d) e = sq_cv c (sq_cv d e) := by
  funext n
  show rs (n + 1) (fun i => rs (i + 1) (fun j => c j * d (i - j)) * e (n - i)) = rs (n + 1) (fun j => c j * rs (n - j + 1) (fun k => d k * e (n - j - k)))
  have e1 : rs (n + 1) (fun i => rs (i + 1) (fun j => c j * d (i - j)) * e (n - i)) = rs (n + 1) (fun i => rs (i + 1) (fun j => c j * d (i - j) * e (n - i))) := rs_ext (fun i _ => by rw [rs_mulr])
  rw [e1, rs_tri (fun i j => c j * d (i - j) * e (n - i)) n]
  refine rs_ext (fun j hj => ?_)
  rw [← rs_mul]
  refine rs_ext (fun k hk => ?_)
  rw [show j + k - j = k by omega, show n - (j + k) = n - j - k by omega]; grind
theorem sq_dist {F : Type} [mRng F] (c d e : Nat → F) : sq_cv c (fun n => d n + e n) = fun n => sq_cv c d n + sq_cv c e n := by
  funext n
  show rs (n + 1) (fun i => c i * (d (n - i) + e (n - i))) = rs (n + 1) (fun i => c i * d (n - i)) + rs (n + 1) (fun i => c i * e (n - i))
  rw [← rs_add]; exact rs_ext (fun i _ => by grind)
def sq_on {F : Type} [mRng F] : Nat → F := fun n => if n = 0 then 1 else 0
theorem sq_mul_on {F : Type} [mRng F] (c : Nat → F) : sq_cv c sq_on = c := by
  funext n
  show rs (n + 1) (fun i => c i * (if n - i = 0 then 1 else 0)) = c n
  rw [rs_one (u := n) (by omega) (fun i hi hn => by rw [if_neg (by omega)]; grind), Nat.sub_self, if_pos rfl]; grind
theorem sq_end {F : Type} [mRng F] {c d : Nat → F} {m k : Nat} (hc : ∀ n, m ≤ n → c n = 0) (hd : ∀ n, k ≤ n → d n = 0) (n : Nat) (hn : m + k ≤ n) : sq_cv c d n = 0 := by
  refine rs_z (fun i hi => ?_)
  by_cases e : m ≤ i
  · rw [hc i e]; grind
  · rw [hd (n - i) (by omega)]; grind
/-- what a ring of polynomials is: sequences with an end -/
def isPol {F R : Type} [mRng F] [mRng R] (co : R → Nat → F) : Prop :=
  (∀ p q, (∀ n, co p n = co q n) → p = q) ∧ (∀ p, ∃ d, ∀ n, d ≤ n → co p n = 0) ∧ (∀ p q n, co (p + q) n = co p n + co q n) ∧ (∀ p q, co (p * q) = sq_cv (co p) (co q)) ∧ (co 1 = sq_on) ∧ (∀ c : Nat → F, (∃ d, ∀ n, d ≤ n → c n = 0) → ∃ p, co p = c)
abbrev Pl (F : Type) [mRng F] : Type := {c : Nat → F // ∃ d, ∀ n, d ≤ n → c n = 0}
def pl_add {F : Type} [mRng F] (p q : Pl F) : Pl F := ⟨fun n => p.1 n + q.1 n, by
  obtain ⟨d, hd⟩ := p.2; obtain ⟨e, he⟩ := q.2
  exact ⟨d + e, fun n hn => by show p.1 n + q.1 n = 0; rw [hd n (by omega), he n (by omega)]; grind⟩⟩
def pl_neg {F : Type} [mRng F] (p : Pl F) : Pl F := ⟨fun n => - p.1 n, by
  obtain ⟨d, hd⟩ := p.2
  exact ⟨d, fun n hn => by show - p.1 n = 0; rw [hd n hn]; grind⟩⟩
def pl_mul {F : Type} [mRng F] (p q : Pl F) : Pl F := ⟨sq_cv p.1 q.1, by
  obtain ⟨d, hd⟩ := p.2; obtain ⟨e, he⟩ := q.2
  exact ⟨d + e, fun n hn => sq_end hd he n hn⟩⟩
def pl_ze {F : Type} [mRng F] : Pl F := ⟨fun _ => 0, 0, fun _ _ => rfl⟩
def pl_on {F : Type} [mRng F] : Pl F := ⟨sq_on, 1, fun n hn => by show (if n = 0 then (1 : F) else 0) = 0; rw [if_neg (by omega)]⟩
def pl_ring (F : Type) [mRng F] : mRng (Pl F) :=
  mk_ring pl_add pl_mul pl_neg pl_ze pl_on
    (fun a => Subtype.ext (funext (fun n => by show a.1 n + 0 = a.1 n; grind)))
    (fun a b => Subtype.ext (funext (fun n => by show a.1 n + b.1 n = b.1 n + a.1 n; grind)))
    (fun a b c => Subtype.ext (funext (fun n => by show a.1 n + b.1 n + c.1 n = a.1 n + (b.1 n + c.1 n); grind)))
    (fun a b c => Subtype.ext (sq_assoc a.1 b.1 c.1))
    (fun a => Subtype.ext (sq_mul_on a.1))
    (fun a b c => Subtype.ext (sq_dist a.1 b.1 c.1))
    (fun a b => Subtype.ext (sq_comm a.1 b.1))
    (fun a => Subtype.ext (funext (fun n => by show - a.1 n + a.1 n = 0; grind)))
theorem pl_one (F : Type) [mRng F] : (letI := pl_ring F; (1 : Pl F)) = pl_on := mk_ring_one _ _ _ _ _ _ _ _ _ _ _ _ _
theorem pol_ex (F : Type) [mRng F] : ∃ (R : Type) (_ : mRng R) (co : R → Nat → F), isPol co :=
  ⟨Pl F, pl_ring F, fun p => p.1, fun p q h => Subtype.ext (funext h), fun p => p.2, fun p q n => rfl, fun p q => rfl, congrArg Subtype.val (pl_one F), fun c h => ⟨⟨c, h⟩, rfl⟩⟩
