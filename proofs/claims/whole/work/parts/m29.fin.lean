/-! finite groups that commute -/
def isAll {G : Type} (all : List G) : Prop := all.Nodup ∧ ∀ x, x ∈ all
def gsum {G : Type} (op : G → G → G) (e : G) : List G → G
  | [] => e
  | x :: l => op x (gsum op e l)
theorem gsum_app {G : Type} {op : G → G → G} {e : G} {iv : G → G} (h : isAb op e iv) : ∀ l m : List G, gsum op e (l ++ m) = op (gsum op e l) (gsum op e m)
  | [], m => (ab_0l h _).symm
  | x :: l, m => by show op x (gsum op e (l ++ m)) = op (op x (gsum op e l)) (gsum op e m); rw [gsum_app h l m, h.1]
theorem gsum_perm {G : Type} {op : G → G → G} {e : G} {iv : G → G} (h : isAb op e iv) : ∀ (l m : List G), l.Nodup → m.Nodup → (∀ c, c ∈ l ↔ c ∈ m) → gsum op e l = gsum op e m
  | [], m, _, _, k => by
    cases m with
    | nil => rfl
    | cons c m => exact absurd ((k c).mpr (List.mem_cons_self ..)) (List.not_mem_nil)
  | c :: l, m, hl, hm, k => by
    obtain ⟨s, t, e1⟩ := List.append_of_mem ((k c).mp (List.mem_cons_self ..))
    subst e1
    have hl' := List.nodup_cons.mp hl
    obtain ⟨q1, q2⟩ := nd_mid hm
    have ih := gsum_perm h l (s ++ t) hl'.2 q1 (fun d => by
      have hd := k d
      rw [List.mem_cons, List.mem_append, List.mem_cons] at hd
      rw [List.mem_append]
      constructor
      · intro k
        have ne : d ≠ c := fun z => hl'.1 (by rw [← z]; exact k)
        rcases hd.mp (Or.inr k) with w | w | w
        · exact Or.inl w
        · exact absurd w ne
        · exact Or.inr w
      · intro k
        have ne : d ≠ c := fun z => q2 (by rw [List.mem_append, ← z]; exact k)
        rcases hd.mpr (by rcases k with k | k; exact Or.inl k; exact Or.inr (Or.inr k)) with w | w
        · exact absurd w ne
        · exact w)
    show op c (gsum op e l) = _
    rw [ih, gsum_app h, gsum_app h]
    show op c (op (gsum op e s) (gsum op e t)) = op (gsum op e s) (op c (gsum op e t))
    rw [← h.1, ← h.1, h.2.1 c]
theorem lagrange {G : Type} {op : G → G → G} {e : G} {iv : G → G} (h : isAb op e iv) {all : List G} (a : isAll all) (x : G) : gm op e all.length x = e := by
  have e1 : gsum op e (all.map (fun y => op x y)) = gsum op e all := gsum_perm h _ _ (by
    unfold List.Nodup
    rw [List.pairwise_map]
    exact List.Pairwise.imp (fun hne z => hne (ab_canc h z)) a.1) a.1 (fun c => ⟨fun _ => a.2 c, fun _ => List.mem_map.mpr ⟨op (iv x) c, a.2 _, by rw [← h.1, h.2.2.2, ab_0l h]⟩⟩)
  have e2 : ∀ l : List G, gsum op e (l.map (fun y => op x y)) = op (gm op e l.length x) (gsum op e l) := by
    intro l
    induction l with
    | nil => exact (h.2.2.1 e).symm
    | cons y l ih =>
      show op (op x y) (gsum op e (l.map (fun y => op x y))) = op (op (gm op e l.length x) x) (op y (gsum op e l))
      rw [ih, ab_4 h, h.2.1 x (gm op e l.length x)]
  rw [e2] at e1
  refine ab_canc h (x := gsum op e all) ?_
  rw [h.2.1, e1, h.2.2.1]
theorem ord_ex {G : Type} {op : G → G → G} {e : G} {iv : G → G} (h : isAb op e iv) {all : List G} (a : isAll all) (x : G) : ∃ n, isOrd op e n x := by
  have pos : 0 < all.length := by
    cases q : all with
    | nil => have := a.2 x; rw [q] at this; exact absurd this List.not_mem_nil
    | cons c l => exact Nat.succ_pos _
  obtain ⟨n, h1, h2⟩ := nat_least (p := fun n => 0 < n ∧ gm op e n x = e) all.length ⟨pos, lagrange h a x⟩
  exact ⟨n, h1.1, h1.2, fun i h0 hi k => h2 i hi ⟨h0, k⟩⟩
theorem ord_dvd {G : Type} {op : G → G → G} {e : G} {iv : G → G} (h : isAb op e iv) {n : Nat} {x : G} (o : isOrd op e n x) (m : Nat) : gm op e m x = e ↔ n ∣ m := by
  constructor
  · intro k
    have e1 : gm op e (m % n) x = e := by
      have : gm op e (n * (m / n) + m % n) x = e := by rw [Nat.div_add_mod]; exact k
      rw [gm_add h, Nat.mul_comm, gm_mul h, o.2.1, gm_e h, ab_0l h] at this; exact this
    refine Nat.dvd_of_mod_eq_zero (Classical.byContradiction (fun ne => ?_))
    exact o.2.2 (m % n) (by omega) (Nat.mod_lt _ o.1) e1
  · rintro ⟨k, rfl⟩
    rw [Nat.mul_comm, gm_mul h, o.2.1, gm_e h]
theorem ord_uniq {G : Type} {op : G → G → G} {e : G} {iv : G → G} (h : isAb op e iv) {n m : Nat} {x : G} (o : isOrd op e n x) (o' : isOrd op e m x) : n = m :=
  Nat.dvd_antisymm ((ord_dvd h o m).mp o'.2.1) ((ord_dvd h o' n).mp o.2.1)
theorem ord_N {G : Type} {op : G → G → G} {e : G} {iv : G → G} (h : isAb op e iv) {all : List G} (a : isAll all) {n : Nat} {x : G} (o : isOrd op e n x) : n ∣ all.length := (ord_dvd h o _).mp (lagrange h a x)
theorem ord_of {G : Type} {op : G → G → G} {e : G} {iv : G → G} (_ : isAb op e iv) {n : Nat} {x : G} (hn : 0 < n) (k : ∀ m, gm op e m x = e ↔ n ∣ m) : isOrd op e n x :=
  ⟨hn, (k n).mpr (Nat.dvd_refl n), fun i h0 hi z => by have := Nat.le_of_dvd h0 ((k i).mp z); omega⟩
/-- the order by parts: where least = order * k and k divides what is left -/
theorem ord_step {G : Type} {op : G → G → G} {e : G} {iv : G → G} (h : isAb op e iv) {o : Nat} {x : G} (ho : isOrd op e o x) {least rest q : Nat} (hq : 2 ≤ q) (pq : ∀ d, d ∣ q → d = 1 ∨ d = q) {k : Nat} (hl : least = o * k) (hk : k ∣ q * rest) (k0 : 0 < k) :
    (gm op e (least / q) x = e → q ∣ least → ∃ k', least / q = o * k' ∧ k' ∣ rest ∧ 0 < k') ∧ (¬ (gm op e (least / q) x = e ∧ q ∣ least) → k ∣ rest) := by
  have cop : ¬ q ∣ k → Nat.Coprime k q := fun nd => by
    rcases pq (Nat.gcd k q) (Nat.gcd_dvd_right k q) with z | z
    · exact z
    · exact absurd (by rw [← z]; exact Nat.gcd_dvd_left k q) nd
  constructor
  · intro z d
    obtain ⟨k', hk'⟩ := (ord_dvd h ho _).mp z
    have e1 : least = o * (q * k') := by
      have := Nat.div_mul_cancel d
      rw [hk'] at this
      rw [← this]; grind
    have e2 : k = q * k' := Nat.eq_of_mul_eq_mul_left ho.1 (by rw [← hl, e1])
    refine ⟨k', hk', ?_, by
      refine Nat.pos_of_ne_zero (fun w => ?_)
      rw [w] at e2; omega⟩
    rw [e2] at hk
    exact Nat.dvd_of_mul_dvd_mul_left (by omega) hk
  · intro z
    by_cases d : q ∣ k
    · exfalso
      obtain ⟨k', rfl⟩ := d
      refine z ⟨(ord_dvd h ho _).mpr ⟨k', ?_⟩, ⟨o * k', by rw [hl]; grind⟩⟩
      rw [hl, show o * (q * k') = o * k' * q by grind, Nat.mul_div_cancel _ (by omega)]
    · exact Nat.Coprime.dvd_of_dvd_mul_left (cop d) hk
/-! counting -/
noncomputable def cN {G : Type} (all : List G) (P : G → Prop) : Nat := (fl P all).length
theorem cN_le {G : Type} {all : List G} (a : isAll all) {P Q : G → Prop} (k : ∀ x, P x → Q x) : cN all P ≤ cN all Q :=
  (nd_sub _ _ (fl_nodup a.1) (fl_nodup a.1) (fun c hc => fl_mem.mpr ⟨a.2 c, k c (fl_mem.mp hc).2⟩)).1
theorem cN_ext {G : Type} {all : List G} (a : isAll all) {P Q : G → Prop} (k : ∀ x, P x ↔ Q x) : cN all P = cN all Q :=
  Nat.le_antisymm (cN_le a (fun x => (k x).mp)) (cN_le a (fun x => (k x).mpr))
theorem cN_eq {G : Type} {all : List G} (a : isAll all) {P Q : G → Prop} (k : ∀ x, P x → Q x) (hl : cN all Q ≤ cN all P) : ∀ x, Q x → P x := fun x hx =>
  (fl_mem.mp ((nd_sub _ _ (fl_nodup a.1) (fl_nodup a.1) (fun c hc => fl_mem.mpr ⟨a.2 c, k c (fl_mem.mp hc).2⟩)).2 hl x (fl_mem.mpr ⟨a.2 x, hx⟩))).2
theorem cN_true {G : Type} {all : List G} (a : isAll all) : cN all (fun _ => True) = all.length := by
  refine Nat.le_antisymm ?_ ?_
  · exact (nd_sub _ _ (fl_nodup a.1) a.1 (fun c _ => a.2 c)).1
  · exact (nd_sub _ _ a.1 (fl_nodup a.1) (fun c _ => fl_mem.mpr ⟨a.2 c, trivial⟩)).1
/-- an injective map of those with P into those with Q -/
theorem cN_inj {G H : Type} {all : List G} {al' : List H} (a : isAll all) (a' : isAll al') {P : G → Prop} {Q : H → Prop} (f : G → H) (k : ∀ x, P x → Q (f x)) (inj : ∀ x y, P x → P y → f x = f y → x = y) : cN all P ≤ cN al' Q := by
  have : ((fl P all).map f).Nodup := by
    unfold List.Nodup
    rw [List.pairwise_map]
    exact List.Pairwise.imp_of_mem (fun ha hb hne z => hne (inj _ _ (fl_mem.mp ha).2 (fl_mem.mp hb).2 z)) (fl_nodup a.1)
  have r := (nd_sub _ (fl Q al') this (fl_nodup a'.1) (fun c hc => by
    obtain ⟨x, hx, rfl⟩ := List.mem_map.mp hc
    exact fl_mem.mpr ⟨a'.2 _, k x (fl_mem.mp hx).2⟩)).1
  rw [List.length_map] at r; exact r
/-- pairs -/
def prod {G H : Type} : List G → List H → List (G × H)
  | [], _ => []
  | x :: l, m => m.map (fun y => (x, y)) ++ prod l m
theorem prod_mem {G H : Type} {m : List H} {z : G × H} : ∀ {l : List G}, z ∈ prod l m ↔ z.1 ∈ l ∧ z.2 ∈ m
  | [] => ⟨fun h => absurd h List.not_mem_nil, fun h => absurd h.1 List.not_mem_nil⟩
  | x :: l => by
    show z ∈ m.map (fun y => (x, y)) ++ prod l m ↔ _
    rw [List.mem_append, List.mem_map, prod_mem, List.mem_cons]
    constructor
    · rintro (⟨y, hy, rfl⟩ | h)
      · exact ⟨Or.inl rfl, hy⟩
      · exact ⟨Or.inr h.1, h.2⟩
    · rintro ⟨h1 | h1, h2⟩
      · exact Or.inl ⟨z.2, h2, by rw [← h1]⟩
      · exact Or.inr ⟨h1, h2⟩
theorem prod_len {G H : Type} (m : List H) : ∀ l : List G, (prod l m).length = l.length * m.length
  | [] => (Nat.zero_mul _).symm
  | x :: l => by
    show (m.map (fun y => (x, y)) ++ prod l m).length = (l.length + 1) * m.length
    rw [List.length_append, List.length_map, prod_len m l, Nat.succ_mul]; omega
theorem prod_nd {G H : Type} {m : List H} (hm : m.Nodup) : ∀ {l : List G}, l.Nodup → (prod l m).Nodup
  | [], _ => List.Pairwise.nil
  | x :: l, hl => by
    have hl' := List.nodup_cons.mp hl
    refine List.nodup_append.mpr ⟨?_, prod_nd hm hl'.2, fun a ha b hb z => ?_⟩
    · unfold List.Nodup
      rw [List.pairwise_map]
      exact List.Pairwise.imp (fun hne z => hne (congrArg Prod.snd z)) hm
    · obtain ⟨y, _, rfl⟩ := List.mem_map.mp ha
      have := (prod_mem.mp hb).1
      rw [← z] at this
      exact hl'.1 this
/-- where each z with R is just one sum of one with P and one with Q -/
theorem cN_prod {G : Type} {all : List G} (a : isAll all) {P Q R : G → Prop} (op : G → G → G) (k1 : ∀ x y, P x → Q y → R (op x y)) (k2 : ∀ z, R z → ∃ x y, P x ∧ Q y ∧ op x y = z) (inj : ∀ x y x' y', P x → Q y → P x' → Q y' → op x y = op x' y' → x = x' ∧ y = y') : cN all R = cN all P * cN all Q := by
  have nd : ((prod (fl P all) (fl Q all)).map (fun z => op z.1 z.2)).Nodup := by
    unfold List.Nodup
    rw [List.pairwise_map]
    refine List.Pairwise.imp_of_mem (fun {p q} ha hb hne z => hne ?_) (prod_nd (fl_nodup a.1) (fl_nodup a.1))
    have h1 := prod_mem.mp ha; have h2 := prod_mem.mp hb
    obtain ⟨e1, e2⟩ := inj _ _ _ _ (fl_mem.mp h1.1).2 (fl_mem.mp h1.2).2 (fl_mem.mp h2.1).2 (fl_mem.mp h2.2).2 z
    exact Prod.ext e1 e2
  have l1 := (nd_sub _ (fl R all) nd (fl_nodup a.1) (fun c hc => by
    obtain ⟨z, hz, rfl⟩ := List.mem_map.mp hc
    have h1 := prod_mem.mp hz
    exact fl_mem.mpr ⟨a.2 _, k1 _ _ (fl_mem.mp h1.1).2 (fl_mem.mp h1.2).2⟩)).1
  have l2 := (nd_sub (fl R all) _ (fl_nodup a.1) nd (fun c hc => by
    obtain ⟨x, y, h1, h2, rfl⟩ := k2 c (fl_mem.mp hc).2
    exact List.mem_map.mpr ⟨(x, y), prod_mem.mpr ⟨fl_mem.mpr ⟨a.2 _, h1⟩, fl_mem.mpr ⟨a.2 _, h2⟩⟩, rfl⟩)).1
  rw [List.length_map, prod_len] at l1 l2
  unfold cN; omega
