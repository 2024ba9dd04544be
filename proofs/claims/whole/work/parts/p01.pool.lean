/-! worlds with a pool of curves -/
theorem vaP_mem {D : va_G} {cl : List vw_C} {ws : va_W} {H : Heap} : va_P D cl ws H ↔ ∀ q, q ∈ ws → va_at D cl q H := by
  constructor
  · intro h q hq
    obtain ⟨k, hk⟩ := List.mem_iff_getElem?.mp hq
    exact h k q hk
  · intro h k q hk
    exact h q (List.mem_iff_getElem?.mpr ⟨k, hk⟩)
theorem vaD_mem {A : Nat → Prop} : ∀ {ws : va_W}, va_D A ws ↔ (ws.map Prod.fst).Nodup ∧ ∀ q, q ∈ ws → A q.1 := by
  intro ws
  constructor
  · intro h
    refine ⟨List.pairwise_iff_getElem.mpr (fun i j hi hj hij e => ?_), fun q hq => ?_⟩
    · rw [List.length_map] at hi hj
      rw [List.getElem_map, List.getElem_map] at e
      have := h.1 i j ws[i] ws[j] (List.getElem?_eq_getElem hi) (List.getElem?_eq_getElem hj) e
      omega
    · obtain ⟨k, hk⟩ := List.mem_iff_getElem?.mp hq
      exact h.2 k q hk
  · intro h
    refine ⟨fun i j p q hp hq e => ?_, fun k q hk => h.2 q (List.mem_iff_getElem?.mpr ⟨k, hk⟩)⟩
    obtain ⟨hi, ei⟩ := List.getElem?_eq_some_iff.mp hp
    obtain ⟨hj, ej⟩ := List.getElem?_eq_some_iff.mp hq
    have pw := List.pairwise_iff_getElem.mp h.1
    rcases Nat.lt_trichotomy i j with z | z | z
    · exact absurd (by rw [List.getElem_map, List.getElem_map, ei, ej]; exact e) (pw i j (by rw [List.length_map]; exact hi) (by rw [List.length_map]; exact hj) z)
    · exact z
    · exact absurd (by rw [List.getElem_map, List.getElem_map, ei, ej]; exact e.symm) (pw j i (by rw [List.length_map]; exact hj) (by rw [List.length_map]; exact hi) z)
theorem vaP_perm {D : va_G} {cl : List vw_C} {ws ws' : va_W} {H : Heap} (p : ws.Perm ws') (h : va_P D cl ws H) : va_P D cl ws' H := vaP_mem.mpr fun q hq => vaP_mem.mp h q (p.mem_iff.mpr hq)
theorem vaD_perm {A : Nat → Prop} {ws ws' : va_W} (p : ws.Perm ws') (h : va_D A ws) : va_D A ws' := by
  have k := vaD_mem.mp h
  exact vaD_mem.mpr ⟨(p.map Prod.fst).nodup_iff.mp k.1, fun q hq => k.2 q (p.mem_iff.mpr hq)⟩
theorem pl_perm {X : va_W} {L : List Nat} {F : Nat → va_E} {a : Nat} (h : a ∈ L) : (X ++ va_pl L F).Perm ((X ++ [(a, F a)]) ++ va_pl (L.erase a) F) := by
  rw [List.append_assoc]
  refine List.Perm.append_left X ?_
  have : (a :: L.erase a).map (fun z => (z, F z)) = [(a, F a)] ++ va_pl (L.erase a) F := rfl
  rw [← this]
  exact (List.perm_cons_erase h).map _
theorem pl_nin {A : Nat → Prop} {X : va_W} {L : List Nat} {F : Nat → va_E} {a : Nat} {e : va_E} (h : va_D A ((X ++ [(a, e)]) ++ va_pl L F)) : a ∉ L := fun k => by
  have := (vaD_mem.mp h).1
  rw [List.map_append, List.map_append] at this
  have d := (List.nodup_append.mp this).2.2
  refine d a (List.mem_append.mpr (Or.inr (by simp))) a ?_ rfl
  exact List.mem_map.mpr ⟨(a, F a), List.mem_map.mpr ⟨a, k, rfl⟩, rfl⟩
theorem pl_in {X : va_W} {L : List Nat} {F : Nat → va_E} {a : Nat} {e : va_E} (h : a ∉ L) : (X ++ [(a, e)]) ++ va_pl L F = X ++ va_pl (a :: L) (va_up F a e) := by
  rw [List.append_assoc]
  congr 1
  show [(a, e)] ++ _ = (a, va_up F a e a) :: L.map (fun z => (z, va_up F a e z))
  rw [va_up_self]
  show (a, e) :: va_pl L F = _
  congr 1
  unfold va_pl
  refine List.map_congr_left (fun z hz => ?_)
  rw [va_up_ne F e (fun q => h (by rw [← q]; exact hz))]
theorem vaP_subQ {D : va_G} {cl : List vw_C} {X Y pl : va_W} {H : Heap} (h : va_P D cl (Y ++ pl) H) (is : List Nat) (hs : is.map (fun i => Y[i]?) = X.map some) : va_P D cl (X ++ pl) H := by
  refine vaP_mem.mpr fun q hq => ?_
  rcases List.mem_append.mp hq with k | k
  · have : some q ∈ is.map (fun i => Y[i]?) := by rw [hs]; exact List.mem_map.mpr ⟨q, k, rfl⟩
    obtain ⟨i, -, e⟩ := List.mem_map.mp this
    exact vaP_mem.mp h q (List.mem_append.mpr (Or.inl (List.mem_iff_getElem?.mpr ⟨i, e⟩)))
  · exact vaP_mem.mp h q (List.mem_append.mpr (Or.inr k))
theorem vaD_subQ {A : Nat → Prop} {X Y pl : va_W} (h : va_D A (Y ++ pl)) (is : List Nat) (hn : va_nd is = true) (hs : is.map (fun i => Y[i]?) = X.map some) : va_D A (X ++ pl) := by
  have k := vaD_mem.mp h
  rw [List.map_append] at k
  obtain ⟨n1, n2, d⟩ := List.nodup_append.mp k.1
  have hY : va_D A Y := vaD_mem.mpr ⟨n1, fun q hq => k.2 q (List.mem_append.mpr (Or.inl hq))⟩
  have hX := vaD_mem.mp (hY.sub is hn hs)
  have sub : ∀ q, q ∈ X → q ∈ Y := fun q kq => by
    have : some q ∈ is.map (fun i => Y[i]?) := by rw [hs]; exact List.mem_map.mpr ⟨q, kq, rfl⟩
    obtain ⟨i, -, e⟩ := List.mem_map.mp this
    exact List.mem_iff_getElem?.mpr ⟨i, e⟩
  refine vaD_mem.mpr ⟨?_, fun q hq => ?_⟩
  · rw [List.map_append]
    refine List.nodup_append.mpr ⟨hX.1, n2, fun a ha b hb => ?_⟩
    obtain ⟨q, kq, e⟩ := List.mem_map.mp ha
    exact d a (List.mem_map.mpr ⟨q, sub q kq, e⟩) b hb
  · rcases List.mem_append.mp hq with z | z
    · exact hX.2 q z
    · exact k.2 q (List.mem_append.mpr (Or.inr z))
