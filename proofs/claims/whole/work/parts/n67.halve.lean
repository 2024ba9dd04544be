/-- at most four points have one double -/
theorem few4 {F : Type} [mFld F] {P A B : Nat} {φ : Int → F} (hc : CX F P A B φ) {all : List (EP (φ A) (φ B))} (a : isAll all) (few : ∀ q, prm q → kap (gO hc) ez all q < q * q * q) (U : EP (φ A) (φ B)) : cN all (fun x => gO hc x x = U) ≤ 4 := by
  have h := gO_ab hc
  have p2 : prm 2 := ⟨by omega, fun d hd => by have := Nat.le_of_dvd (by omega) hd; rcases d with _ | _ | _ | d <;> omega⟩
  have g2 : ∀ x, gm (gO hc) ez 2 x = gO hc x x := fun x => by
    show gO hc (gO hc ez x) x = _
    rw [ab_0l h]
  have k4 : cN all (fun x => gO hc x x = ez) ≤ 4 := by
    have s : isSub (gO hc) ez en (fun x => gO hc x x = ez) := by
      refine ⟨h.2.2.1 ez, fun x y hx hy => ?_, fun x hx => ?_⟩
      · show gO hc (gO hc x y) (gO hc x y) = ez
        rw [h_swap h]
        show gO hc (gO hc x x) (gO hc y y) = ez
        rw [hx, hy]; exact h.2.2.1 ez
      · have hx : gO hc x x = ez := hx
        have : x = en x := ab_ivu h hx
        show gO hc (en x) (en x) = ez
        rw [← this]; exact hx
    have := sub_123 h a p2 s (fun x hx => (g2 x).trans hx) (by
      have := few 2 p2
      unfold kap at this
      exact Nat.lt_of_le_of_lt (cN_le a (fun x hx => (g2 x).trans hx)) this)
    omega
  by_cases e : ∃ x0, gO hc x0 x0 = U
  · obtain ⟨x0, e⟩ := e
    refine Nat.le_trans (cN_inj a a (fun x => gO hc x (en x0)) (fun x hx => ?_) (fun x y _ _ k => ?_)) k4
    · show gO hc (gO hc x (en x0)) (gO hc x (en x0)) = ez
      have hx : gO hc x x = U := hx
      rw [h_swap h, hx, ← e, h_swap h, h.2.2.2]; exact h.2.2.1 ez
    · have k : gO hc x (en x0) = gO hc y (en x0) := k
      have h1 := ab_sub' h x x0
      rw [k, ab_sub' h] at h1
      exact h1.symm
  · refine Nat.le_trans (Nat.le_of_eq ?_) (Nat.zero_le 4)
    unfold cN
    rw [List.length_eq_zero_iff]
    exact List.eq_nil_iff_forall_not_mem.mpr (fun x hx => e ⟨x, (fl_mem.mp hx).2⟩)
