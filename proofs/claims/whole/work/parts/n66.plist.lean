/-! the list of all points, as the reference keeps it -/
theorem nd_sur {α : Type} : ∀ (L m : List α), m.Nodup → (∀ c, c ∈ m → c ∈ L) → L.length ≤ m.length → L.Nodup
  | [], _, _, _, _ => List.nodup_nil
  | x :: t, m, hm, hs, hl => by
    classical
    have hx : x ∉ t := fun k => by
      have := nd_le m t hm (fun c hc => by
        rcases List.mem_cons.mp (hs c hc) with e | e
        · rw [e]; exact k
        · exact e)
      have hl' : t.length + 1 ≤ m.length := hl
      omega
    refine List.nodup_cons.mpr ⟨hx, nd_sur t (m.erase x) (hm.erase x) (fun c hc => ?_) ?_⟩
    · have := (List.Nodup.mem_erase_iff hm).mp hc
      rcases List.mem_cons.mp (hs c this.2) with e | e
      · exact absurd e this.1
      · exact e
    · have := List.le_length_erase (a := x) (l := m)
      have hl' : t.length + 1 ≤ m.length := hl
      omega
noncomputable def ctN (T : Nat → Prop) : Nat → Nat
  | 0 => 0
  | k + 1 => ctN T k + @ite Nat (T k) (Classical.propDecidable _) 1 0
theorem ctN_y {T : Nat → Prop} {k : Nat} (h : T k) : ctN T (k + 1) = ctN T k + 1 := by
  show ctN T k + _ = _; rw [if_pos h]
theorem ctN_n {T : Nat → Prop} {k : Nat} (h : ¬ T k) : ctN T (k + 1) = ctN T k := by
  show ctN T k + _ = _; rw [if_neg h]; rfl
theorem ctN_mono {T : Nat → Prop} {i : Nat} : ∀ {j : Nat}, i ≤ j → ctN T i ≤ ctN T j
  | 0, h => by rw [show i = 0 by omega]; exact Nat.le_refl _
  | j + 1, h => by
    by_cases e : i = j + 1
    · rw [e]; exact Nat.le_refl _
    · exact Nat.le_trans (ctN_mono (j := j) (by omega)) (Nat.le_add_right _ _)
theorem ctN_le {T : Nat → Prop} : ∀ k : Nat, ctN T k ≤ k
  | 0 => Nat.le_refl _
  | k + 1 => by
    have := ctN_le (T := T) k
    by_cases h : T k
    · rw [ctN_y h]; omega
    · rw [ctN_n h]; omega
theorem ctN_fl {G : Type} (T : G → Prop) (W : Nat → G) : ∀ n : Nat, (fl T ((List.range n).map W)).length = ctN (fun j => T (W j)) n
  | 0 => rfl
  | n + 1 => by
    rw [List.range_succ, List.map_append, fl_app, List.length_append, ctN_fl T W n]
    show _ + (fl T [W n]).length = _
    rw [fl_one]; rfl
theorem ctN_ext {T T' : Nat → Prop} : ∀ {k : Nat}, (∀ j, j < k → (T j ↔ T' j)) → ctN T k = ctN T' k
  | 0, _ => rfl
  | k + 1, h => by
    have ih := ctN_ext (T := T) (T' := T') (k := k) (fun j hj => h j (by omega))
    by_cases c : T k
    · rw [ctN_y c, ctN_y ((h k (by omega)).mp c), ih]
    · rw [ctN_n c, ctN_n (fun z => c ((h k (by omega)).mpr z)), ih]
theorem cN_all {G : Type} {l m : List G} (a : isAll l) (b : isAll m) (T : G → Prop) : cN l T = cN m T :=
  Nat.le_antisymm (cN_inj a b (fun x => x) (fun _ h => h) (fun _ _ _ _ h => h)) (cN_inj b a (fun x => x) (fun _ h => h) (fun _ _ _ _ h => h))
/-- the points of the list are all points, each once -/
theorem pl_ex {F : Type} [mFld F] {P A B : Nat} {φ : Int → F} (hc : CX F P A B φ) {pts ah : Nat → Int32} (hL : LK P A B P pts ah) : ∃ W : Nat → EP (φ A) (φ B), (∀ j, j < cnt P A B P → pe P φ (pts j) (W j).1) ∧ isAll ((List.range (cnt P A B P)).map W) ∧ (∀ q, prm q → kap (gO hc) ez ((List.range (cnt P A B P)).map W) q < q * q * q) ∧ W 0 = ez := by
  have hc0 := hc
  obtain ⟨hF, hp, h5, hP, hA, hB, -⟩ := hc0
  have c1 := cnt_pos P A B P
  have ex : ∀ j, ∃ U : EP (φ A) (φ B), j < cnt P A B P → pe P φ (pts j) U.1 := fun j => by
    by_cases k : j < cnt P A B P
    · by_cases j0 : j = 0
      · exact ⟨ez, fun _ => Or.inl ⟨by rw [j0]; exact hL.1, rfl⟩⟩
      · obtain ⟨x, r, hx, hr, z⟩ := LK.blk (by omega) hL P (Nat.le_refl _) j (by omega) k
        have rr := hr.1
        rcases z with z | ⟨r0, z⟩
        · obtain ⟨U, hu⟩ := isPt_pe hc (u := pts j) (Or.inr ⟨x, r, hx, rr, z, hr.2.1⟩)
          exact ⟨U, fun _ => hu⟩
        · obtain ⟨U, hu⟩ := isPt_pe hc (u := nI (16384 * x + r)) (Or.inr ⟨x, r, hx, rr, rfl, hr.2.1⟩)
          refine ⟨en U, fun _ => ?_⟩
          rcases hu with ⟨e, -⟩ | ⟨x', y', hx', hy', e, eU⟩
          · exact absurd e (nI_m1 (by omega))
          · have := (nI_eq (by omega) (by omega)).mp e
            have ex : x' = x := by omega
            have ey : y' = r := by omega
            subst ex ey
            refine Or.inr ⟨x', P - y', hx', by omega, z.trans (by congr 1; omega), ?_⟩
            show ng U.1 = _
            rw [eU]
            show some (φ x', - φ y') = _
            have : - φ y' = φ ((P - y' : Nat) : Int) := by
              have h1 : φ ((P - y' : Nat) : Int) + φ y' = 0 := by
                rw [← hF.1.2.1, hF.2.1]
                exact ⟨1, by omega⟩
              grind
            rw [this]
    · exact ⟨ez, fun z => absurd z k⟩
  obtain ⟨W, hW⟩ := Classical.axiomOfChoice ex
  have W0 : W 0 = ez := by
    have := hW 0 (by omega)
    rw [hL.1] at this
    exact Subtype.ext ((pe_none hP this).mp rfl)
  obtain ⟨all, ha, hl, few⟩ := ga_ex hc
  have sur : ∀ U : EP (φ A) (φ B), U ∈ (List.range (cnt P A B P)).map W := fun U => by
    obtain ⟨u, hu⟩ := pe_ex hF U.1
    rw [List.mem_map]
    rcases pe_isPt hc hu with e | ⟨x, y, hx, hy, e, hxy⟩
    · refine ⟨0, List.mem_range.mpr (by omega), ?_⟩
      rw [W0]; exact (Subtype.ext ((pe_none hP hu).mp e)).symm
    · obtain ⟨k, hk, ek⟩ := hL.mem hp h5 hx hy hxy
      refine ⟨k, List.mem_range.mpr hk, ?_⟩
      have := hW k hk
      rw [ek, ← e] at this
      exact Subtype.ext (pe_un hP this hu)
  have al : isAll ((List.range (cnt P A B P)).map W) := ⟨nd_sur _ all ha.1 (fun c _ => sur c) (by rw [List.length_map, List.length_range]; omega), sur⟩
  refine ⟨W, hW, al, fun q hq => ?_, W0⟩
  have := few q hq
  unfold kap at *
  rw [cN_all al ha]; exact this
