theorem qp_le {q i K m : Nat} (hq : prm q) (nd : ¬ q ∣ m) (h : q ^ i ∣ q ^ K * m) : i ≤ K := Nat.le_of_not_lt fun z => by
  have q2 := hq.1
  have qK : 0 < q ^ K := Nat.pow_pos (by omega)
  have h1 : q ^ (K + 1) ∣ q ^ K * m := Nat.dvd_trans (Nat.pow_dvd_pow q z) h
  rw [Nat.pow_succ] at h1
  exact nd (Nat.dvd_of_mul_dvd_mul_left qK h1)
theorem io_dvd {G : Type} {op : G → G → G} {e : G} {iv : G → G} (h : isAb op e iv) {all : List G} (a : isAll all) (few : ∀ q, prm q → kap op e all q < q * q * q) (pos : 0 < all.length) {I O I' O' : Nat} (I0 : 0 < I) (io : isIO op e all I O) (io' : isIO op e all I' O') : I ∣ I' := dvd_parts I I0 fun q i hq d => by
  obtain ⟨M, K, Q⟩ := isQ_ex h a few hq pos
  obtain ⟨⟨x, ex, nx⟩, -⟩ := io.2 q M K Q
  obtain ⟨⟨y, ey, -⟩, -⟩ := io'.2 q M K Q
  rw [ex] at d
  rw [ey]
  exact Nat.dvd_trans (Nat.pow_dvd_pow q (qp_le hq nx d)) (Nat.dvd_mul_right _ _)
theorem IOc_un {P A B : Nat} (hp : isp P) (h5 : 5 ≤ P) (hP : P ≤ 10007) (hA : A < P) (hB : B < P) (hd : disc P A B ≠ 0) {x y x' y' : Int32} (h : IOc P A B x y) (k : IOc P A B x' y') : x = x' ∧ y = y' := by
  obtain ⟨I, O, rfl, rfl, I0, -, eO, -, ioa⟩ := h
  obtain ⟨I', O', rfl, rfl, I0', -, eO', -, ioa'⟩ := k
  obtain ⟨F, i, φ, hc⟩ := cx_ex hp h5 hP hA hB hd
  obtain ⟨all, al, hl, few⟩ := ga_ex hc
  have pos : 0 < all.length := by rw [hl]; exact cnt_pos P A B P
  have e : I = I' := Nat.dvd_antisymm (io_dvd (gO_ab hc) al few pos I0 (ioa F i φ hc all al) (ioa' F i φ hc all al)) (io_dvd (gO_ab hc) al few pos I0' (ioa' F i φ hc all al) (ioa F i φ hc all al))
  subst e
  exact ⟨rfl, by rw [eO, eO']⟩
/-- the makers that were found stay, when the two numbers are found again -/
theorem MK_tr {P A B : Nat} (hp : isp P) (h5 : 5 ≤ P) (hP : P ≤ 10007) (hA : A < P) (hB : B < P) (hd : disc P A B ≠ 0) {ii oo ii1 oo1 mf fi se : Int32} (hM : MKc P A B ii oo mf fi se) (hI : ii = 0 ∨ IOc P A B ii oo) (hx : (ii1 = ii ∧ oo1 = oo) ∨ IOc P A B ii1 oo1) : MKc P A B ii1 oo1 mf fi se := by
  rcases hx with ⟨e1, e2⟩ | hx
  · rw [e1, e2]; exact hM
  · rcases hM with z | ⟨z, I, O, e1, e2, I0, Ib, Ob, all⟩
    · exact Or.inl z
    · rcases hI with k | k
      · rw [k] at e1
        exact absurd ((nI_eq (a := 0) (b := I) (by omega) (by omega)).mp e1) (by omega)
      · obtain ⟨u1, u2⟩ := IOc_un hp h5 hP hA hB hd k hx
        exact Or.inr ⟨z, I, O, by rw [← u1]; exact e1, by rw [← u2]; exact e2, I0, Ib, Ob, all⟩
