theorem isQ_all {G : Type} {op : G → G → G} {e : G} {l m : List G} (a : isAll l) (b : isAll m) {q M K : Nat} (Q : isQ op e l q M K) : isQ op e m q M K := by
  obtain ⟨h1, h2, h3, h4, h5⟩ := Q
  have hl : m.length = l.length := by rw [← cN_true a, ← cN_true b]; exact cN_all b a _
  refine ⟨h1, h2, fun k => ?_, fun k => ?_, by rw [hl]; exact h5⟩
  · rw [← h3 k]; exact cN_all b a _
  · rw [← h4 k]; exact cN_all b a _
theorem isIO_all {G : Type} {op : G → G → G} {e : G} {l m : List G} (a : isAll l) (b : isAll m) {I O : Nat} (h : isIO op e l I O) : isIO op e m I O := by
  have hl : m.length = l.length := by rw [← cN_true a, ← cN_true b]; exact cN_all b a _
  exact ⟨by rw [hl]; exact h.1, fun q M K Q => h.2 q M K (isQ_all b a Q)⟩
/-- n1 and n2 of a curve, whatever field is taken -/
def isIOa (P A B I O : Nat) : Prop := ∀ (F : Type) (i : mFld F) (φ : Int → F) (hc : CX F P A B φ) (all : List (EP (φ A) (φ B))), isAll all → isIO (gO hc) ez all I O
def IOc (P A B : Nat) (x y : Int32) : Prop := ∃ I O, x = nI I ∧ y = nI O ∧ 0 < I ∧ I ≤ 10298 ∧ O = cnt P A B P / I ∧ I * O = cnt P A B P ∧ isIOa P A B I O
theorem setE {N : Nat} (hN : 2 ^ 64 ≤ N) {P A B : Nat} (hp : isp P) (h5 : 5 ≤ P) (hP : P ≤ 10007) (hA : A < P) (hB : B < P) (hd : disc P A B ≠ 0) {pr : Int32} {gl : Nat → Int32} (ht : tabC pr gl) {q : Int32} (hq : q = 0 ∨ q = nI (cnt P A B P)) {od reach back : Int32} {st ends : Nat → Int32} (hS : SD reach st ends) {x y : Int32} (hI : x = 0 ∨ IOc P A B x y) : ∃ pr1 od1 r1 b1 gl1 st1 en1 q1 x1 y1, mX3_settle N pr od reach back gl st ends (nI P) (nI A) (nI B) q x y = some (pr1, od1, r1, b1, gl1, st1, en1, q1, x1, y1) ∧ tabC pr1 gl1 ∧ SD r1 st1 en1 ∧ (q1 = 0 ∨ q1 = nI (cnt P A B P)) ∧ IOc P A B x1 y1 := by
  unfold mX3_settle
  have cb : cnt P A B P ≤ 10298 := cnt_10300 hp h5 hP
  have c0 := cnt_pos P A B P
  rcases hI with e | hI
  · rw [if_pos (by rw [e]; decide)]
    obtain ⟨pr1, gl1, es, t⟩ := sizeC (N := N) (by omega) h5 hP hA hB ht hq
    rw [es]; simp only [Option.bind_some]
    have run : ∀ (F : Type) (i : mFld F) (φ : Int → F) (hc : CX F P A B φ) (all : List (EP (φ A) (φ B))), isAll all → ∃ (o : Int32 × Int32 × Int32 × Int32 × Int32 × Int32 × Int32 × (Nat → Int32) × (Nat → Int32) × (Nat → Int32)) (I O : Nat), mi_run (mX3_settle_b19 N (nI P) (nI A) (nI B) (nI (cnt P A B P))) N (1, nI (cnt P A B P), 0, pr1, od, reach, back, gl1, st, ends) = some o ∧ o.1 = nI I ∧ tabC o.2.2.2.1 o.2.2.2.2.2.2.2.1 ∧ SD o.2.2.2.2.2.1 o.2.2.2.2.2.2.2.2.1 o.2.2.2.2.2.2.2.2.2 ∧ 0 < I ∧ I ≤ 10298 ∧ O = cnt P A B P / I ∧ isIO (gO hc) ez all I O := fun F i φ hc all al => by
      obtain ⟨all', al', hl', few'⟩ := ga_ex hc
      obtain ⟨o, I, O, z1, z2, z3, z4, z5, z6, z7, z8⟩ := setC hN hc al' hl' few' cb t (od := od) (back := back) hS
      exact ⟨o, I, O, z1, z2, z3, z4, z5, z6, z7, isIO_all al' al z8⟩
    obtain ⟨F, i, φ, hc⟩ := cx_ex hp h5 hP hA hB hd
    obtain ⟨all, al, hl, few⟩ := ga_ex hc
    obtain ⟨⟨o1, o2, o3, o4, o5, o6, o7, o8, o9, o10⟩, I, O, eo, e1, t1, s1, I0, Ib, eO, io⟩ := run F i φ hc all al
    have e1 : o1 = nI I := e1
    have IO : I * O = cnt P A B P := by rw [← hl]; exact io.1
    rw [eo]; simp only [Option.bind_some]
    rw [e1, if_neg (nI_ne0 I0 (by omega)), pk_div (by omega) I0 (by omega)]
    refine ⟨_, _, _, _, _, _, _, _, _, _, rfl, t1, s1, Or.inr rfl, I, O, rfl, by rw [eO], I0, Ib, eO, IO, fun F' i' φ' hc' all' al' => ?_⟩
    obtain ⟨o', I', O', eo', e1', -, -, I0', Ib', eO', io'⟩ := run F' i' φ' hc' all' al'
    have := Option.some.inj (eo.symm.trans eo')
    have h1 : nI I = nI I' := by rw [← e1, ← e1', ← this]
    have h2 := (nI_eq (by omega) (by omega)).mp h1
    subst h2
    rw [eO, ← eO']; exact io'
  · have hI' := hI
    obtain ⟨I, O, ex, ey, I0, Ib, -⟩ := hI'
    rw [if_neg (by rw [ex]; exact nI_ge (a := 0) (by omega) (by omega))]
    exact ⟨_, _, _, _, _, _, _, _, _, _, rfl, ht, hS, hq, hI⟩
