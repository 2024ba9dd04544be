section
-- ===== PART A: goes FIRST, ahead of the names: the tables' words, and 'selects' of the private methods out of them =====
/-- a private method of a class that the tables say can be made, by its rows of tables_1 -/
def lw_okq (q : MethodName × Nat) : Prop := (q.1.cls ≠ "java/lang/invoke/MethodHandle" ∧ q.1.cls ≠ "java/lang/invoke/VarHandle") ∧ Cond.instantiable q.1.cls q.2 ∈ tables_1 ∧ Cond.privateMethod q.1 ∈ tables_1 ∧ Cond.instanceMethod q.1 ∈ tables_1
theorem lw_p0 : lw_okq (⟨"PointRings", "keep", "(LPointRings$Curve;)I"⟩, 4) := ⟨⟨by decide +kernel, by decide +kernel⟩, List.mem_of_getElem? (i := 10) (by decide +kernel), List.mem_of_getElem? (i := 167) (by decide +kernel), List.mem_of_getElem? (i := 168) (by decide +kernel)⟩
theorem lw_p1 : lw_okq (⟨"PointRings", "at", "(I)LPointRings$Curve;"⟩, 4) := ⟨⟨by decide +kernel, by decide +kernel⟩, List.mem_of_getElem? (i := 10) (by decide +kernel), List.mem_of_getElem? (i := 175) (by decide +kernel), List.mem_of_getElem? (i := 176) (by decide +kernel)⟩
theorem lw_p2 : lw_okq (⟨"PointRings$Roots", "lay", "(I)V"⟩, 2) := ⟨⟨by decide +kernel, by decide +kernel⟩, List.mem_of_getElem? (i := 20) (by decide +kernel), List.mem_of_getElem? (i := 254) (by decide +kernel), List.mem_of_getElem? (i := 255) (by decide +kernel)⟩
theorem lw_p3 : lw_okq (⟨"PointRings$Survey", "manyAt", "(II)I"⟩, 3) := ⟨⟨by decide +kernel, by decide +kernel⟩, List.mem_of_getElem? (i := 34) (by decide +kernel), List.mem_of_getElem? (i := 309) (by decide +kernel), List.mem_of_getElem? (i := 310) (by decide +kernel)⟩
theorem lw_p4 : lw_okq (⟨"PointRings$Survey", "manyPoints", "(III)I"⟩, 3) := ⟨⟨by decide +kernel, by decide +kernel⟩, List.mem_of_getElem? (i := 34) (by decide +kernel), List.mem_of_getElem? (i := 363) (by decide +kernel), List.mem_of_getElem? (i := 364) (by decide +kernel)⟩
theorem lw_p5 : lw_okq (⟨"PointRings$Survey", "innerPart", "(LPointRings$Curve;II)I"⟩, 3) := ⟨⟨by decide +kernel, by decide +kernel⟩, List.mem_of_getElem? (i := 34) (by decide +kernel), List.mem_of_getElem? (i := 391) (by decide +kernel), List.mem_of_getElem? (i := 392) (by decide +kernel)⟩
theorem lw_p6 : lw_okq (⟨"PointRings$Strides", "endOf", "(I)I"⟩, 6) := ⟨⟨by decide +kernel, by decide +kernel⟩, List.mem_of_getElem? (i := 40) (by decide +kernel), List.mem_of_getElem? (i := 399) (by decide +kernel), List.mem_of_getElem? (i := 400) (by decide +kernel)⟩
theorem lw_p7 : lw_okq (⟨"PointRings$Strides", "note", "(II)V"⟩, 6) := ⟨⟨by decide +kernel, by decide +kernel⟩, List.mem_of_getElem? (i := 40) (by decide +kernel), List.mem_of_getElem? (i := 403) (by decide +kernel), List.mem_of_getElem? (i := 404) (by decide +kernel)⟩
theorem lw_p8 : lw_okq (⟨"PointRings$Survey", "powerToLaid", "(LPointRings$Curve;II)I"⟩, 3) := ⟨⟨by decide +kernel, by decide +kernel⟩, List.mem_of_getElem? (i := 34) (by decide +kernel), List.mem_of_getElem? (i := 417) (by decide +kernel), List.mem_of_getElem? (i := 418) (by decide +kernel)⟩
theorem lw_p9 : lw_okq (⟨"PointRings$Strides", "noted", "(I)I"⟩, 6) := ⟨⟨by decide +kernel, by decide +kernel⟩, List.mem_of_getElem? (i := 40) (by decide +kernel), List.mem_of_getElem? (i := 426) (by decide +kernel), List.mem_of_getElem? (i := 427) (by decide +kernel)⟩
theorem lw_p10 : lw_okq (⟨"PointRings$Survey", "isApart", "(LPointRings$Curve;I)Z"⟩, 3) := ⟨⟨by decide +kernel, by decide +kernel⟩, List.mem_of_getElem? (i := 34) (by decide +kernel), List.mem_of_getElem? (i := 474) (by decide +kernel), List.mem_of_getElem? (i := 475) (by decide +kernel)⟩
theorem lw_p11 : lw_okq (⟨"PointRings$Survey", "keepHalf", "(II)I"⟩, 3) := ⟨⟨by decide +kernel, by decide +kernel⟩, List.mem_of_getElem? (i := 34) (by decide +kernel), List.mem_of_getElem? (i := 486) (by decide +kernel), List.mem_of_getElem? (i := 487) (by decide +kernel)⟩
theorem lw_p12 : lw_okq (⟨"PointRings", "madeByKernel", "(I)LPointRings$Curve;"⟩, 4) := ⟨⟨by decide +kernel, by decide +kernel⟩, List.mem_of_getElem? (i := 10) (by decide +kernel), List.mem_of_getElem? (i := 531) (by decide +kernel), List.mem_of_getElem? (i := 532) (by decide +kernel)⟩
theorem lw_p13 : lw_okq (⟨"PointRings", "primeOrder", "(LPointRings$Curve;I)I"⟩, 4) := ⟨⟨by decide +kernel, by decide +kernel⟩, List.mem_of_getElem? (i := 10) (by decide +kernel), List.mem_of_getElem? (i := 547) (by decide +kernel), List.mem_of_getElem? (i := 548) (by decide +kernel)⟩
theorem lw_p14 : lw_okq (⟨"PointRings$Survey", "manyWithoutA", "(II)I"⟩, 3) := ⟨⟨by decide +kernel, by decide +kernel⟩, List.mem_of_getElem? (i := 34) (by decide +kernel), List.mem_of_getElem? (i := 564) (by decide +kernel), List.mem_of_getElem? (i := 565) (by decide +kernel)⟩
theorem lw_p15 : lw_okq (⟨"PointRings$Survey", "manyWithoutB", "(II)I"⟩, 3) := ⟨⟨by decide +kernel, by decide +kernel⟩, List.mem_of_getElem? (i := 34) (by decide +kernel), List.mem_of_getElem? (i := 568) (by decide +kernel), List.mem_of_getElem? (i := 569) (by decide +kernel)⟩
def lw_privs_1 : List (MethodName × Nat) := [(⟨"PointRings", "keep", "(LPointRings$Curve;)I"⟩, 4), (⟨"PointRings", "at", "(I)LPointRings$Curve;"⟩, 4), (⟨"PointRings$Roots", "lay", "(I)V"⟩, 2), (⟨"PointRings$Survey", "manyAt", "(II)I"⟩, 3), (⟨"PointRings$Survey", "manyPoints", "(III)I"⟩, 3), (⟨"PointRings$Survey", "innerPart", "(LPointRings$Curve;II)I"⟩, 3), (⟨"PointRings$Strides", "endOf", "(I)I"⟩, 6), (⟨"PointRings$Strides", "note", "(II)V"⟩, 6), (⟨"PointRings$Survey", "powerToLaid", "(LPointRings$Curve;II)I"⟩, 3), (⟨"PointRings$Strides", "noted", "(I)I"⟩, 6), (⟨"PointRings$Survey", "isApart", "(LPointRings$Curve;I)Z"⟩, 3), (⟨"PointRings$Survey", "keepHalf", "(II)I"⟩, 3), (⟨"PointRings", "madeByKernel", "(I)LPointRings$Curve;"⟩, 4), (⟨"PointRings", "primeOrder", "(LPointRings$Curve;I)I"⟩, 4), (⟨"PointRings$Survey", "manyWithoutA", "(II)I"⟩, 3), (⟨"PointRings$Survey", "manyWithoutB", "(II)I"⟩, 3)]
theorem lw_r1 : ∀ q ∈ lw_privs_1, lw_okq q := List.forall_mem_cons.mpr ⟨lw_p0, List.forall_mem_cons.mpr ⟨lw_p1, List.forall_mem_cons.mpr ⟨lw_p2, List.forall_mem_cons.mpr ⟨lw_p3, List.forall_mem_cons.mpr ⟨lw_p4, List.forall_mem_cons.mpr ⟨lw_p5, List.forall_mem_cons.mpr ⟨lw_p6, List.forall_mem_cons.mpr ⟨lw_p7, List.forall_mem_cons.mpr ⟨lw_p8, List.forall_mem_cons.mpr ⟨lw_p9, List.forall_mem_cons.mpr ⟨lw_p10, List.forall_mem_cons.mpr ⟨lw_p11, List.forall_mem_cons.mpr ⟨lw_p12, List.forall_mem_cons.mpr ⟨lw_p13, List.forall_mem_cons.mpr ⟨lw_p14, List.forall_mem_cons.mpr ⟨lw_p15, fun _ h => absurd h List.not_mem_nil⟩⟩⟩⟩⟩⟩⟩⟩⟩⟩⟩⟩⟩⟩⟩⟩
theorem lw_p16 : lw_okq (⟨"PointRingsModel", "take", "(III)V"⟩, 18) := ⟨⟨by decide +kernel, by decide +kernel⟩, List.mem_of_getElem? (i := 588) (by decide +kernel), List.mem_of_getElem? (i := 665) (by decide +kernel), List.mem_of_getElem? (i := 666) (by decide +kernel)⟩
theorem lw_p17 : lw_okq (⟨"PointRingsModel", "takePrime", "(I)V"⟩, 18) := ⟨⟨by decide +kernel, by decide +kernel⟩, List.mem_of_getElem? (i := 588) (by decide +kernel), List.mem_of_getElem? (i := 669) (by decide +kernel), List.mem_of_getElem? (i := 670) (by decide +kernel)⟩
theorem lw_p18 : lw_okq (⟨"PointRingsModel", "split", "()I"⟩, 18) := ⟨⟨by decide +kernel, by decide +kernel⟩, List.mem_of_getElem? (i := 588) (by decide +kernel), List.mem_of_getElem? (i := 673) (by decide +kernel), List.mem_of_getElem? (i := 674) (by decide +kernel)⟩
theorem lw_p19 : lw_okq (⟨"PointRingsModel", "mul", "(II)I"⟩, 18) := ⟨⟨by decide +kernel, by decide +kernel⟩, List.mem_of_getElem? (i := 588) (by decide +kernel), List.mem_of_getElem? (i := 678) (by decide +kernel), List.mem_of_getElem? (i := 679) (by decide +kernel)⟩
theorem lw_p20 : lw_okq (⟨"PointRingsModel", "mod", "(J)I"⟩, 18) := ⟨⟨by decide +kernel, by decide +kernel⟩, List.mem_of_getElem? (i := 588) (by decide +kernel), List.mem_of_getElem? (i := 683) (by decide +kernel), List.mem_of_getElem? (i := 684) (by decide +kernel)⟩
theorem lw_p21 : lw_okq (⟨"PointRingsModel", "make", "(III)I"⟩, 18) := ⟨⟨by decide +kernel, by decide +kernel⟩, List.mem_of_getElem? (i := 588) (by decide +kernel), List.mem_of_getElem? (i := 687) (by decide +kernel), List.mem_of_getElem? (i := 688) (by decide +kernel)⟩
theorem lw_p22 : lw_okq (⟨"PointRingsModel", "has", "(I)Z"⟩, 18) := ⟨⟨by decide +kernel, by decide +kernel⟩, List.mem_of_getElem? (i := 588) (by decide +kernel), List.mem_of_getElem? (i := 695) (by decide +kernel), List.mem_of_getElem? (i := 696) (by decide +kernel)⟩
theorem lw_p23 : lw_okq (⟨"PointRingsModel", "jOf", "()I"⟩, 18) := ⟨⟨by decide +kernel, by decide +kernel⟩, List.mem_of_getElem? (i := 588) (by decide +kernel), List.mem_of_getElem? (i := 699) (by decide +kernel), List.mem_of_getElem? (i := 700) (by decide +kernel)⟩
theorem lw_p24 : lw_okq (⟨"PointRingsModel", "noSquare", "()I"⟩, 18) := ⟨⟨by decide +kernel, by decide +kernel⟩, List.mem_of_getElem? (i := 588) (by decide +kernel), List.mem_of_getElem? (i := 705) (by decide +kernel), List.mem_of_getElem? (i := 706) (by decide +kernel)⟩
theorem lw_p25 : lw_okq (⟨"PointRingsModel", "powered", "(IJ)I"⟩, 18) := ⟨⟨by decide +kernel, by decide +kernel⟩, List.mem_of_getElem? (i := 588) (by decide +kernel), List.mem_of_getElem? (i := 709) (by decide +kernel), List.mem_of_getElem? (i := 710) (by decide +kernel)⟩
theorem lw_p26 : lw_okq (⟨"PointRingsModel", "turn", "()V"⟩, 18) := ⟨⟨by decide +kernel, by decide +kernel⟩, List.mem_of_getElem? (i := 588) (by decide +kernel), List.mem_of_getElem? (i := 718) (by decide +kernel), List.mem_of_getElem? (i := 719) (by decide +kernel)⟩
theorem lw_p27 : lw_okq (⟨"PointRingsModel", "isPoint", "(I)Z"⟩, 18) := ⟨⟨by decide +kernel, by decide +kernel⟩, List.mem_of_getElem? (i := 588) (by decide +kernel), List.mem_of_getElem? (i := 730) (by decide +kernel), List.mem_of_getElem? (i := 731) (by decide +kernel)⟩
theorem lw_p28 : lw_okq (⟨"PointRingsModel", "right", "(I)I"⟩, 18) := ⟨⟨by decide +kernel, by decide +kernel⟩, List.mem_of_getElem? (i := 588) (by decide +kernel), List.mem_of_getElem? (i := 734) (by decide +kernel), List.mem_of_getElem? (i := 735) (by decide +kernel)⟩
theorem lw_p29 : lw_okq (⟨"PointRingsModel", "list", "()V"⟩, 18) := ⟨⟨by decide +kernel, by decide +kernel⟩, List.mem_of_getElem? (i := 588) (by decide +kernel), List.mem_of_getElem? (i := 770) (by decide +kernel), List.mem_of_getElem? (i := 771) (by decide +kernel)⟩
theorem lw_p30 : lw_okq (⟨"PointRingsModel", "sum", "(II)I"⟩, 18) := ⟨⟨by decide +kernel, by decide +kernel⟩, List.mem_of_getElem? (i := 588) (by decide +kernel), List.mem_of_getElem? (i := 782) (by decide +kernel), List.mem_of_getElem? (i := 783) (by decide +kernel)⟩
theorem lw_p31 : lw_okq (⟨"PointRingsModel", "negativeOf", "(I)I"⟩, 18) := ⟨⟨by decide +kernel, by decide +kernel⟩, List.mem_of_getElem? (i := 588) (by decide +kernel), List.mem_of_getElem? (i := 792) (by decide +kernel), List.mem_of_getElem? (i := 793) (by decide +kernel)⟩
def lw_privs_2 : List (MethodName × Nat) := [(⟨"PointRingsModel", "take", "(III)V"⟩, 18), (⟨"PointRingsModel", "takePrime", "(I)V"⟩, 18), (⟨"PointRingsModel", "split", "()I"⟩, 18), (⟨"PointRingsModel", "mul", "(II)I"⟩, 18), (⟨"PointRingsModel", "mod", "(J)I"⟩, 18), (⟨"PointRingsModel", "make", "(III)I"⟩, 18), (⟨"PointRingsModel", "has", "(I)Z"⟩, 18), (⟨"PointRingsModel", "jOf", "()I"⟩, 18), (⟨"PointRingsModel", "noSquare", "()I"⟩, 18), (⟨"PointRingsModel", "powered", "(IJ)I"⟩, 18), (⟨"PointRingsModel", "turn", "()V"⟩, 18), (⟨"PointRingsModel", "isPoint", "(I)Z"⟩, 18), (⟨"PointRingsModel", "right", "(I)I"⟩, 18), (⟨"PointRingsModel", "list", "()V"⟩, 18), (⟨"PointRingsModel", "sum", "(II)I"⟩, 18), (⟨"PointRingsModel", "negativeOf", "(I)I"⟩, 18)]
theorem lw_r2 : ∀ q ∈ lw_privs_2, lw_okq q := List.forall_mem_cons.mpr ⟨lw_p16, List.forall_mem_cons.mpr ⟨lw_p17, List.forall_mem_cons.mpr ⟨lw_p18, List.forall_mem_cons.mpr ⟨lw_p19, List.forall_mem_cons.mpr ⟨lw_p20, List.forall_mem_cons.mpr ⟨lw_p21, List.forall_mem_cons.mpr ⟨lw_p22, List.forall_mem_cons.mpr ⟨lw_p23, List.forall_mem_cons.mpr ⟨lw_p24, List.forall_mem_cons.mpr ⟨lw_p25, List.forall_mem_cons.mpr ⟨lw_p26, List.forall_mem_cons.mpr ⟨lw_p27, List.forall_mem_cons.mpr ⟨lw_p28, List.forall_mem_cons.mpr ⟨lw_p29, List.forall_mem_cons.mpr ⟨lw_p30, List.forall_mem_cons.mpr ⟨lw_p31, fun _ h => absurd h List.not_mem_nil⟩⟩⟩⟩⟩⟩⟩⟩⟩⟩⟩⟩⟩⟩⟩⟩
theorem lw_p32 : lw_okq (⟨"PointRingsModel", "multiple", "(IJ)I"⟩, 18) := ⟨⟨by decide +kernel, by decide +kernel⟩, List.mem_of_getElem? (i := 588) (by decide +kernel), List.mem_of_getElem? (i := 800) (by decide +kernel), List.mem_of_getElem? (i := 801) (by decide +kernel)⟩
theorem lw_p33 : lw_okq (⟨"PointRingsModel", "least", "()I"⟩, 18) := ⟨⟨by decide +kernel, by decide +kernel⟩, List.mem_of_getElem? (i := 588) (by decide +kernel), List.mem_of_getElem? (i := 821) (by decide +kernel), List.mem_of_getElem? (i := 822) (by decide +kernel)⟩
theorem lw_p34 : lw_okq (⟨"PointRingsModel", "isBound", "(I)Z"⟩, 18) := ⟨⟨by decide +kernel, by decide +kernel⟩, List.mem_of_getElem? (i := 588) (by decide +kernel), List.mem_of_getElem? (i := 825) (by decide +kernel), List.mem_of_getElem? (i := 826) (by decide +kernel)⟩
theorem lw_p35 : lw_okq (⟨"PointRingsModel", "proves", "(I)Z"⟩, 18) := ⟨⟨by decide +kernel, by decide +kernel⟩, List.mem_of_getElem? (i := 588) (by decide +kernel), List.mem_of_getElem? (i := 833) (by decide +kernel), List.mem_of_getElem? (i := 834) (by decide +kernel)⟩
theorem lw_p36 : lw_okq (⟨"PointRingsModel", "orderOf", "(I)I"⟩, 18) := ⟨⟨by decide +kernel, by decide +kernel⟩, List.mem_of_getElem? (i := 588) (by decide +kernel), List.mem_of_getElem? (i := 837) (by decide +kernel), List.mem_of_getElem? (i := 838) (by decide +kernel)⟩
theorem lw_p37 : lw_okq (⟨"PointRingsModel", "placeOf", "(I)I"⟩, 18) := ⟨⟨by decide +kernel, by decide +kernel⟩, List.mem_of_getElem? (i := 588) (by decide +kernel), List.mem_of_getElem? (i := 861) (by decide +kernel), List.mem_of_getElem? (i := 862) (by decide +kernel)⟩
theorem lw_p38 : lw_okq (⟨"PointRingsModel", "isApart", "(II)Z"⟩, 18) := ⟨⟨by decide +kernel, by decide +kernel⟩, List.mem_of_getElem? (i := 588) (by decide +kernel), List.mem_of_getElem? (i := 865) (by decide +kernel), List.mem_of_getElem? (i := 866) (by decide +kernel)⟩
theorem lw_p39 : lw_okq (⟨"PointRingsModel", "all", "(IIZ)I"⟩, 18) := ⟨⟨by decide +kernel, by decide +kernel⟩, List.mem_of_getElem? (i := 588) (by decide +kernel), List.mem_of_getElem? (i := 914) (by decide +kernel), List.mem_of_getElem? (i := 915) (by decide +kernel)⟩
def lw_privs_3 : List (MethodName × Nat) := [(⟨"PointRingsModel", "multiple", "(IJ)I"⟩, 18), (⟨"PointRingsModel", "least", "()I"⟩, 18), (⟨"PointRingsModel", "isBound", "(I)Z"⟩, 18), (⟨"PointRingsModel", "proves", "(I)Z"⟩, 18), (⟨"PointRingsModel", "orderOf", "(I)I"⟩, 18), (⟨"PointRingsModel", "placeOf", "(I)I"⟩, 18), (⟨"PointRingsModel", "isApart", "(II)Z"⟩, 18), (⟨"PointRingsModel", "all", "(IIZ)I"⟩, 18)]
theorem lw_r3 : ∀ q ∈ lw_privs_3, lw_okq q := List.forall_mem_cons.mpr ⟨lw_p32, List.forall_mem_cons.mpr ⟨lw_p33, List.forall_mem_cons.mpr ⟨lw_p34, List.forall_mem_cons.mpr ⟨lw_p35, List.forall_mem_cons.mpr ⟨lw_p36, List.forall_mem_cons.mpr ⟨lw_p37, List.forall_mem_cons.mpr ⟨lw_p38, List.forall_mem_cons.mpr ⟨lw_p39, fun _ h => absurd h List.not_mem_nil⟩⟩⟩⟩⟩⟩⟩⟩
def lw_privs : List (MethodName × Nat) := lw_privs_1 ++ (lw_privs_2 ++ (lw_privs_3))
def lw_tbl : List Cond := k2_sels lw_privs ++ tables_1
theorem lw_privs_ok : ∀ q ∈ lw_privs, lw_okq q := by
  show ∀ q ∈ lw_privs_1 ++ (lw_privs_2 ++ (lw_privs_3)), lw_okq q
  exact List.forall_mem_append.mpr ⟨lw_r1, List.forall_mem_append.mpr ⟨lw_r2, lw_r3⟩⟩
end
section
theorem goodIn_r {big : List Cond} (ws : List Cond) (ps : List Nat) (hp : ws = ps.filterMap (fun i => big[i]?)) (h : ws.all goodWord = true) : GoodIn big ws := by
  intro w hw
  have h1 := List.all_eq_true.mp h w hw
  rw [hp] at hw
  obtain ⟨i, -, hi⟩ := List.mem_filterMap.mp hw
  have hm : w ∈ big := by first | exact List.mem_of_getElem? hi | exact List.getElem?_mem hi
  exact ⟨hm, good_of_word h1⟩
theorem goodIn_app {big a b : List Cond} (ha : GoodIn big a) (hb : GoodIn big b) : GoodIn big (a ++ b) := fun w h => (List.mem_append.mp h).elim (ha w) (hb w)
theorem goodIn_sub {big ws : List Cond} (hm : ∀ w ∈ ws, w ∈ big) (h : ws.all goodWord = true) : GoodIn big ws := fun w hw => ⟨hm w hw, good_of_word (List.all_eq_true.mp h w hw)⟩
def RX0 : String := "PointRings$Curve"
def TX0 : u_T := fun k => match k with
  | 0 => ("PointRings$Curve", "p", "I", true)
  | 1 => ("PointRings$Curve", "a", "I", true)
  | 2 => ("PointRings$Curve", "b", "I", true)
  | 3 => ("PointRings$Curve", "from", "I", false)
  | 4 => ("PointRings$Curve", "kernelPoint", "I", false)
  | 5 => ("PointRings$Curve", "kernelOrder", "I", false)
  | 6 => ("PointRings$Curve", "points", "I", false)
  | 7 => ("PointRings$Curve", "inner", "I", false)
  | 8 => ("PointRings$Curve", "outer", "I", false)
  | 9 => ("PointRings$Curve", "makersFound", "Z", false)
  | 10 => ("PointRings$Curve", "first", "I", false)
  | _ => ("PointRings$Curve", "second", "I", false)
def tyX0 : Nat → FieldType := fun k => match k with
  | 0 => .int
  | 1 => .int
  | 2 => .int
  | 3 => .int
  | 4 => .int
  | 5 => .int
  | 6 => .int
  | 7 => .int
  | 8 => .int
  | 9 => .boolean
  | 10 => .int
  | _ => .int
abbrev wsX00 : List Cond := u_ws RX0 TX0 12
theorem nmX0 : ∀ a, a < 12 → ∀ b, b < 12 → a ≠ b → (TX0 a).2.1 ≠ (TX0 b).2.1 := by decide +kernel
theorem tyX0_ok : ∀ k, k < 12 → parseFieldDescriptor (TX0 k).2.2.1 = some (tyX0 k) := by decide +kernel
abbrev cX0_init : ByteArray := prog_2_method_1_code
def yX0_init : MethodName := ⟨RX0, "<init>", "(III)V"⟩
def RX1 : String := "PointRings$Roots"
def TX1 : u_T := fun k => match k with
  | 0 => ("PointRings$Roots", "least", "[I", true)
  | _ => ("PointRings$Roots", "prime", "I", false)
def tyX1 : Nat → FieldType := fun k => match k with
  | 0 => .array .int
  | _ => .int
abbrev wsX10 : List Cond := u_ws RX1 TX1 2
theorem nmX1 : ∀ a, a < 2 → ∀ b, b < 2 → a ≠ b → (TX1 a).2.1 ≠ (TX1 b).2.1 := by decide +kernel
theorem tyX1_ok : ∀ k, k < 2 → parseFieldDescriptor (TX1 k).2.2.1 = some (tyX1 k) := by decide +kernel
abbrev cX1_init : ByteArray := prog_3_method_1_code
def yX1_init : MethodName := ⟨RX1, "<init>", "()V"⟩
abbrev cX1_leastRoot : ByteArray := prog_3_method_2_code
def yX1_leastRoot : MethodName := ⟨RX1, "leastRoot", "(II)I"⟩
abbrev cX1_lay : ByteArray := prog_3_method_3_code
def yX1_lay : MethodName := ⟨RX1, "lay", "(I)V"⟩
def RX2 : String := "PointRings$Strides"
def TX2 : u_T := fun k => match k with
  | 0 => ("PointRings$Strides", "stepAt", "[I", true)
  | 1 => ("PointRings$Strides", "ends", "[I", true)
  | 2 => ("PointRings$Strides", "laidOn", "LPointRings$Curve;", false)
  | 3 => ("PointRings$Strides", "order", "I", false)
  | 4 => ("PointRings$Strides", "reach", "I", false)
  | _ => ("PointRings$Strides", "back", "I", false)
def tyX2 : Nat → FieldType := fun k => match k with
  | 0 => .array .int
  | 1 => .array .int
  | 2 => .object "PointRings$Curve"
  | 3 => .int
  | 4 => .int
  | _ => .int
abbrev wsX20 : List Cond := u_ws RX2 TX2 6
theorem nmX2 : ∀ a, a < 6 → ∀ b, b < 6 → a ≠ b → (TX2 a).2.1 ≠ (TX2 b).2.1 := by decide +kernel
theorem tyX2_ok : ∀ k, k < 6 → parseFieldDescriptor (TX2 k).2.2.1 = some (tyX2 k) := by decide +kernel
abbrev cX2_init : ByteArray := prog_4_method_1_code
def yX2_init : MethodName := ⟨RX2, "<init>", "()V"⟩
def RX3 : String := "PointRings$Survey"
def TX3 : u_T := fun k => match k with
  | 0 => ("PointRings$Survey", "roots", "LPointRings$Roots;", true)
  | 1 => ("PointRings$Survey", "strides", "LPointRings$Strides;", true)
  | _ => ("PointRings$Survey", "halvesFound", "[I", true)
def tyX3 : Nat → FieldType := fun k => match k with
  | 0 => .object "PointRings$Roots"
  | 1 => .object "PointRings$Strides"
  | _ => .array .int
abbrev wsX30 : List Cond := u_ws RX3 TX3 3
theorem nmX3 : ∀ a, a < 3 → ∀ b, b < 3 → a ≠ b → (TX3 a).2.1 ≠ (TX3 b).2.1 := by decide +kernel
theorem tyX3_ok : ∀ k, k < 3 → parseFieldDescriptor (TX3 k).2.2.1 = some (tyX3 k) := by decide +kernel
abbrev cX3_init : ByteArray := prog_5_method_1_code
def yX3_init : MethodName := ⟨RX3, "<init>", "(LPointRings$Roots;)V"⟩
abbrev cX3_manyPoints : ByteArray := prog_5_method_4_code
def yX3_manyPoints : MethodName := ⟨RX3, "manyPoints", "(III)I"⟩
abbrev cX3_manyAt : ByteArray := prog_5_method_5_code
def yX3_manyAt : MethodName := ⟨RX3, "manyAt", "(II)I"⟩
abbrev cX3_pairsWith : ByteArray := prog_5_method_19_code
def yX3_pairsWith : MethodName := ⟨RX3, "pairsWith", "(II)I"⟩
abbrev cX3_kindsWith : ByteArray := prog_5_method_20_code
def yX3_kindsWith : MethodName := ⟨RX3, "kindsWith", "(II)I"⟩
abbrev cX3_manyWithoutA : ByteArray := prog_5_method_21_code
def yX3_manyWithoutA : MethodName := ⟨RX3, "manyWithoutA", "(II)I"⟩
abbrev cX3_manyWithoutB : ByteArray := prog_5_method_22_code
def yX3_manyWithoutB : MethodName := ⟨RX3, "manyWithoutB", "(II)I"⟩
def RX4 : String := "PointRings$Whole"
abbrev cX4_isBelow : ByteArray := prog_6_method_2_code
def yX4_isBelow : MethodName := ⟨RX4, "isBelow", "(II)Z"⟩
abbrev cX4_isFieldPrime : ByteArray := prog_6_method_3_code
def yX4_isFieldPrime : MethodName := ⟨RX4, "isFieldPrime", "(I)Z"⟩
abbrev cX4_isPrime : ByteArray := prog_6_method_4_code
def yX4_isPrime : MethodName := ⟨RX4, "isPrime", "(I)Z"⟩
abbrev cX4_leastFactor : ByteArray := prog_6_method_5_code
def yX4_leastFactor : MethodName := ⟨RX4, "leastFactor", "(I)I"⟩
abbrev cX4_cubicMark : ByteArray := prog_6_method_11_code
def yX4_cubicMark : MethodName := ⟨RX4, "cubicMark", "(III)I"⟩
def RX5 : String := "PointRings"
def TX5 : u_T := fun k => match k with
  | 0 => ("PointRings", "held", "[LPointRings$Curve;", true)
  | 1 => ("PointRings", "size", "I", false)
  | 2 => ("PointRings", "roots", "LPointRings$Roots;", true)
  | _ => ("PointRings", "survey", "LPointRings$Survey;", true)
def tyX5 : Nat → FieldType := fun k => match k with
  | 0 => .array (.object "PointRings$Curve")
  | 1 => .int
  | 2 => .object "PointRings$Roots"
  | _ => .object "PointRings$Survey"
abbrev wsX50 : List Cond := u_ws RX5 TX5 4
theorem nmX5 : ∀ a, a < 4 → ∀ b, b < 4 → a ≠ b → (TX5 a).2.1 ≠ (TX5 b).2.1 := by decide +kernel
theorem tyX5_ok : ∀ k, k < 4 → parseFieldDescriptor (TX5 k).2.2.1 = some (tyX5 k) := by decide +kernel
abbrev cX5_init : ByteArray := prog_1_method_1_code
def yX5_init : MethodName := ⟨RX5, "<init>", "()V"⟩
abbrev cX5_curve : ByteArray := prog_1_method_2_code
def yX5_curve : MethodName := ⟨RX5, "curve", "(III)I"⟩
abbrev cX5_told : ByteArray := prog_1_method_3_code
def yX5_told : MethodName := ⟨RX5, "told", "(II)I"⟩
abbrev cX5_twist : ByteArray := prog_1_method_4_code
def yX5_twist : MethodName := ⟨RX5, "twist", "(I)I"⟩
abbrev cX5_map : ByteArray := prog_1_method_5_code
def yX5_map : MethodName := ⟨RX5, "map", "(II)I"⟩
abbrev cX5_mapped : ByteArray := prog_1_method_6_code
def yX5_mapped : MethodName := ⟨RX5, "mapped", "(III)I"⟩
abbrev cX5_root : ByteArray := prog_1_method_7_code
def yX5_root : MethodName := ⟨RX5, "root", "(II)I"⟩
abbrev cX5_inverse : ByteArray := prog_1_method_8_code
def yX5_inverse : MethodName := ⟨RX5, "inverse", "(II)I"⟩
abbrev cX5_power : ByteArray := prog_1_method_9_code
def yX5_power : MethodName := ⟨RX5, "power", "(IIJ)I"⟩
abbrev cX5_generator : ByteArray := prog_1_method_10_code
def yX5_generator : MethodName := ⟨RX5, "generator", "(I)I"⟩
abbrev cX5_point : ByteArray := prog_1_method_11_code
def yX5_point : MethodName := ⟨RX5, "point", "(III)I"⟩
abbrev cX5_lift : ByteArray := prog_1_method_12_code
def yX5_lift : MethodName := ⟨RX5, "lift", "(IIZ)I"⟩
abbrev cX5_near : ByteArray := prog_1_method_13_code
def yX5_near : MethodName := ⟨RX5, "near", "(II)I"⟩
abbrev cX5_nth : ByteArray := prog_1_method_14_code
def yX5_nth : MethodName := ⟨RX5, "nth", "(II)I"⟩
abbrev cX5_rank : ByteArray := prog_1_method_15_code
def yX5_rank : MethodName := ⟨RX5, "rank", "(II)I"⟩
abbrev cX5_add : ByteArray := prog_1_method_16_code
def yX5_add : MethodName := ⟨RX5, "add", "(III)I"⟩
abbrev cX5_negative : ByteArray := prog_1_method_17_code
def yX5_negative : MethodName := ⟨RX5, "negative", "(II)I"⟩
abbrev cX5_times : ByteArray := prog_1_method_18_code
def yX5_times : MethodName := ⟨RX5, "times", "(IIJ)I"⟩
abbrev cX5_alone : ByteArray := prog_1_method_19_code
def yX5_alone : MethodName := ⟨RX5, "alone", "(IIJ)I"⟩
abbrev cX5_count : ByteArray := prog_1_method_20_code
def yX5_count : MethodName := ⟨RX5, "count", "(I)I"⟩
abbrev cX5_countOver : ByteArray := prog_1_method_21_code
def yX5_countOver : MethodName := ⟨RX5, "countOver", "(II)J"⟩
abbrev cX5_bound : ByteArray := prog_1_method_22_code
def yX5_bound : MethodName := ⟨RX5, "bound", "(II)I"⟩
abbrev cX5_proof : ByteArray := prog_1_method_23_code
def yX5_proof : MethodName := ⟨RX5, "proof", "(II)I"⟩
abbrev cX5_supersingular : ByteArray := prog_1_method_24_code
def yX5_supersingular : MethodName := ⟨RX5, "supersingular", "(I)I"⟩
abbrev cX5_order : ByteArray := prog_1_method_25_code
def yX5_order : MethodName := ⟨RX5, "order", "(II)I"⟩
abbrev cX5_ofOrder : ByteArray := prog_1_method_26_code
def yX5_ofOrder : MethodName := ⟨RX5, "ofOrder", "(II)I"⟩
abbrev cX5_torsion : ByteArray := prog_1_method_27_code
def yX5_torsion : MethodName := ⟨RX5, "torsion", "(II)I"⟩
abbrev cX5_made : ByteArray := prog_1_method_28_code
def yX5_made : MethodName := ⟨RX5, "made", "(II)I"⟩
abbrev cX5_halves : ByteArray := prog_1_method_29_code
def yX5_halves : MethodName := ⟨RX5, "halves", "(II)I"⟩
abbrev cX5_half : ByteArray := prog_1_method_30_code
def yX5_half : MethodName := ⟨RX5, "half", "(III)I"⟩
abbrev cX5_log : ByteArray := prog_1_method_31_code
def yX5_log : MethodName := ⟨RX5, "log", "(III)I"⟩
abbrev cX5_embedding : ByteArray := prog_1_method_32_code
def yX5_embedding : MethodName := ⟨RX5, "embedding", "(II)I"⟩
abbrev cX5_quotient : ByteArray := prog_1_method_33_code
def yX5_quotient : MethodName := ⟨RX5, "quotient", "(II)I"⟩
abbrev cX5_image : ByteArray := prog_1_method_34_code
def yX5_image : MethodName := ⟨RX5, "image", "(II)I"⟩
abbrev cX5_kernel : ByteArray := prog_1_method_35_code
def yX5_kernel : MethodName := ⟨RX5, "kernel", "(II)I"⟩
abbrev cX5_sign : ByteArray := prog_1_method_36_code
def yX5_sign : MethodName := ⟨RX5, "sign", "(IIIIII)I"⟩
abbrev cX5_good : ByteArray := prog_1_method_37_code
def yX5_good : MethodName := ⟨RX5, "good", "(IIIIII)I"⟩
abbrev cX5_census : ByteArray := prog_1_method_38_code
def yX5_census : MethodName := ⟨RX5, "census", "(II)I"⟩
abbrev cX5_kinds : ByteArray := prog_1_method_39_code
def yX5_kinds : MethodName := ⟨RX5, "kinds", "(II)I"⟩
abbrev cX5_curves : ByteArray := prog_1_method_40_code
def yX5_curves : MethodName := ⟨RX5, "curves", "()I"⟩
abbrev cX5_drop : ByteArray := prog_1_method_41_code
def yX5_drop : MethodName := ⟨RX5, "drop", "()I"⟩
abbrev cX5_at : ByteArray := prog_1_method_42_code
def yX5_at : MethodName := ⟨RX5, "at", "(I)LPointRings$Curve;"⟩
abbrev cX5_madeByKernel : ByteArray := prog_1_method_43_code
def yX5_madeByKernel : MethodName := ⟨RX5, "madeByKernel", "(I)LPointRings$Curve;"⟩
abbrev cX5_keep : ByteArray := prog_1_method_44_code
def yX5_keep : MethodName := ⟨RX5, "keep", "(LPointRings$Curve;)I"⟩
abbrev cX5_primeOrder : ByteArray := prog_1_method_45_code
def yX5_primeOrder : MethodName := ⟨RX5, "primeOrder", "(LPointRings$Curve;I)I"⟩
def yX5_pair : MethodName := ⟨RX5, "pair", "(II)I"⟩
def yX5_xOf : MethodName := ⟨RX5, "xOf", "(I)I"⟩
def yX5_yOf : MethodName := ⟨RX5, "yOf", "(I)I"⟩
def RX6 : String := "PointRingsModel"
def TX6 : u_T := fun k => match k with
  | 0 => ("PointRingsModel", "p", "I", false)
  | 1 => ("PointRingsModel", "a", "I", false)
  | 2 => ("PointRingsModel", "b", "I", false)
  | 3 => ("PointRingsModel", "inverses", "[I", true)
  | 4 => ("PointRingsModel", "roots", "[I", true)
  | 5 => ("PointRingsModel", "rooted", "I", false)
  | 6 => ("PointRingsModel", "points", "[I", true)
  | 7 => ("PointRingsModel", "pointMany", "I", false)
  | 8 => ("PointRingsModel", "ahead", "[I", true)
  | 9 => ("PointRingsModel", "curves", "I", false)
  | 10 => ("PointRingsModel", "ps", "[I", true)
  | 11 => ("PointRingsModel", "as", "[I", true)
  | 12 => ("PointRingsModel", "bs", "[I", true)
  | 13 => ("PointRingsModel", "from", "[I", true)
  | 14 => ("PointRingsModel", "kernelPoint", "[I", true)
  | 15 => ("PointRingsModel", "kernelOrder", "[I", true)
  | 16 => ("PointRingsModel", "marked", "[Z", true)
  | _ => ("PointRingsModel", "seen", "[Z", true)
def tyX6 : Nat → FieldType := fun k => match k with
  | 0 => .int
  | 1 => .int
  | 2 => .int
  | 3 => .array .int
  | 4 => .array .int
  | 5 => .int
  | 6 => .array .int
  | 7 => .int
  | 8 => .array .int
  | 9 => .int
  | 10 => .array .int
  | 11 => .array .int
  | 12 => .array .int
  | 13 => .array .int
  | 14 => .array .int
  | 15 => .array .int
  | 16 => .array .boolean
  | _ => .array .boolean
abbrev wsX60 : List Cond := u_ws RX6 TX6 18
theorem nmX6 : ∀ a, a < 18 → ∀ b, b < 18 → a ≠ b → (TX6 a).2.1 ≠ (TX6 b).2.1 := by decide +kernel
theorem tyX6_ok : ∀ k, k < 18 → parseFieldDescriptor (TX6 k).2.2.1 = some (tyX6 k) := by decide +kernel
abbrev cX6_init : ByteArray := prog_8_method_1_code
def yX6_init : MethodName := ⟨RX6, "<init>", "()V"⟩
abbrev cX6_in : ByteArray := prog_8_method_3_code
def yX6_in : MethodName := ⟨RX6, "in", "(JJJ)Z"⟩
abbrev cX6_isPrime : ByteArray := prog_8_method_4_code
def yX6_isPrime : MethodName := ⟨RX6, "isPrime", "(I)Z"⟩
abbrev cX6_takePrime : ByteArray := prog_8_method_5_code
def yX6_takePrime : MethodName := ⟨RX6, "takePrime", "(I)V"⟩
abbrev cX6_mod : ByteArray := prog_8_method_6_code
def yX6_mod : MethodName := ⟨RX6, "mod", "(J)I"⟩
abbrev cX6_mul : ByteArray := prog_8_method_7_code
def yX6_mul : MethodName := ⟨RX6, "mul", "(II)I"⟩
abbrev cX6_right : ByteArray := prog_8_method_10_code
def yX6_right : MethodName := ⟨RX6, "right", "(I)I"⟩
abbrev cX6_take : ByteArray := prog_8_method_11_code
def yX6_take : MethodName := ⟨RX6, "take", "(III)V"⟩
abbrev cX6_isWanted : ByteArray := prog_8_method_18_code
def yX6_isWanted : MethodName := ⟨RX6, "isWanted", "(I)Z"⟩
abbrev cX6_split : ByteArray := prog_8_method_19_code
def yX6_split : MethodName := ⟨RX6, "split", "()I"⟩
abbrev cX6_make : ByteArray := prog_8_method_20_code
def yX6_make : MethodName := ⟨RX6, "make", "(III)I"⟩
abbrev cX6_curve : ByteArray := prog_8_method_21_code
def yX6_curve : MethodName := ⟨RX6, "curve", "(III)I"⟩
abbrev cX6_has : ByteArray := prog_8_method_22_code
def yX6_has : MethodName := ⟨RX6, "has", "(I)Z"⟩
abbrev cX6_jOf : ByteArray := prog_8_method_23_code
def yX6_jOf : MethodName := ⟨RX6, "jOf", "()I"⟩
abbrev cX6_told : ByteArray := prog_8_method_24_code
def yX6_told : MethodName := ⟨RX6, "told", "(II)I"⟩
abbrev cX6_twist : ByteArray := prog_8_method_26_code
def yX6_twist : MethodName := ⟨RX6, "twist", "(I)I"⟩
abbrev cX6_map : ByteArray := prog_8_method_27_code
def yX6_map : MethodName := ⟨RX6, "map", "(II)I"⟩
abbrev cX6_mapped : ByteArray := prog_8_method_28_code
def yX6_mapped : MethodName := ⟨RX6, "mapped", "(III)I"⟩
abbrev cX6_root : ByteArray := prog_8_method_29_code
def yX6_root : MethodName := ⟨RX6, "root", "(II)I"⟩
abbrev cX6_inverse : ByteArray := prog_8_method_30_code
def yX6_inverse : MethodName := ⟨RX6, "inverse", "(II)I"⟩
abbrev cX6_power : ByteArray := prog_8_method_31_code
def yX6_power : MethodName := ⟨RX6, "power", "(IIJ)I"⟩
abbrev cX6_generator : ByteArray := prog_8_method_32_code
def yX6_generator : MethodName := ⟨RX6, "generator", "(I)I"⟩
abbrev cX6_point : ByteArray := prog_8_method_33_code
def yX6_point : MethodName := ⟨RX6, "point", "(III)I"⟩
abbrev cX6_lift : ByteArray := prog_8_method_34_code
def yX6_lift : MethodName := ⟨RX6, "lift", "(IIZ)I"⟩
abbrev cX6_near : ByteArray := prog_8_method_35_code
def yX6_near : MethodName := ⟨RX6, "near", "(II)I"⟩
abbrev cX6_nth : ByteArray := prog_8_method_36_code
def yX6_nth : MethodName := ⟨RX6, "nth", "(II)I"⟩
abbrev cX6_rank : ByteArray := prog_8_method_37_code
def yX6_rank : MethodName := ⟨RX6, "rank", "(II)I"⟩
abbrev cX6_add : ByteArray := prog_8_method_38_code
def yX6_add : MethodName := ⟨RX6, "add", "(III)I"⟩
abbrev cX6_negative : ByteArray := prog_8_method_39_code
def yX6_negative : MethodName := ⟨RX6, "negative", "(II)I"⟩
abbrev cX6_times : ByteArray := prog_8_method_40_code
def yX6_times : MethodName := ⟨RX6, "times", "(IIJ)I"⟩
abbrev cX6_alone : ByteArray := prog_8_method_41_code
def yX6_alone : MethodName := ⟨RX6, "alone", "(IIJ)I"⟩
abbrev cX6_count : ByteArray := prog_8_method_42_code
def yX6_count : MethodName := ⟨RX6, "count", "(I)I"⟩
abbrev cX6_countOver : ByteArray := prog_8_method_43_code
def yX6_countOver : MethodName := ⟨RX6, "countOver", "(II)J"⟩
abbrev cX6_bound : ByteArray := prog_8_method_46_code
def yX6_bound : MethodName := ⟨RX6, "bound", "(II)I"⟩
abbrev cX6_proof : ByteArray := prog_8_method_48_code
def yX6_proof : MethodName := ⟨RX6, "proof", "(II)I"⟩
abbrev cX6_supersingular : ByteArray := prog_8_method_49_code
def yX6_supersingular : MethodName := ⟨RX6, "supersingular", "(I)I"⟩
abbrev cX6_order : ByteArray := prog_8_method_50_code
def yX6_order : MethodName := ⟨RX6, "order", "(II)I"⟩
abbrev cX6_ofOrder : ByteArray := prog_8_method_51_code
def yX6_ofOrder : MethodName := ⟨RX6, "ofOrder", "(II)I"⟩
abbrev cX6_torsion : ByteArray := prog_8_method_52_code
def yX6_torsion : MethodName := ⟨RX6, "torsion", "(II)I"⟩
abbrev cX6_made : ByteArray := prog_8_method_55_code
def yX6_made : MethodName := ⟨RX6, "made", "(II)I"⟩
abbrev cX6_halves : ByteArray := prog_8_method_56_code
def yX6_halves : MethodName := ⟨RX6, "halves", "(II)I"⟩
abbrev cX6_half : ByteArray := prog_8_method_57_code
def yX6_half : MethodName := ⟨RX6, "half", "(III)I"⟩
abbrev cX6_log : ByteArray := prog_8_method_58_code
def yX6_log : MethodName := ⟨RX6, "log", "(III)I"⟩
abbrev cX6_embedding : ByteArray := prog_8_method_59_code
def yX6_embedding : MethodName := ⟨RX6, "embedding", "(II)I"⟩
abbrev cX6_quotient : ByteArray := prog_8_method_60_code
def yX6_quotient : MethodName := ⟨RX6, "quotient", "(II)I"⟩
abbrev cX6_image : ByteArray := prog_8_method_61_code
def yX6_image : MethodName := ⟨RX6, "image", "(II)I"⟩
abbrev cX6_kernel : ByteArray := prog_8_method_62_code
def yX6_kernel : MethodName := ⟨RX6, "kernel", "(II)I"⟩
abbrev cX6_sign : ByteArray := prog_8_method_64_code
def yX6_sign : MethodName := ⟨RX6, "sign", "(IIIIII)I"⟩
abbrev cX6_good : ByteArray := prog_8_method_65_code
def yX6_good : MethodName := ⟨RX6, "good", "(IIIIII)I"⟩
abbrev cX6_all : ByteArray := prog_8_method_66_code
def yX6_all : MethodName := ⟨RX6, "all", "(IIZ)I"⟩
abbrev cX6_census : ByteArray := prog_8_method_67_code
def yX6_census : MethodName := ⟨RX6, "census", "(II)I"⟩
abbrev cX6_kinds : ByteArray := prog_8_method_68_code
def yX6_kinds : MethodName := ⟨RX6, "kinds", "(II)I"⟩
abbrev cX6_curves : ByteArray := prog_8_method_69_code
def yX6_curves : MethodName := ⟨RX6, "curves", "()I"⟩
abbrev cX6_drop : ByteArray := prog_8_method_70_code
def yX6_drop : MethodName := ⟨RX6, "drop", "()I"⟩
def wsX0_init : List Cond := .code yX0_init cX0_init 4 none :: ([.methodLink RX0 3 objectInit, .instanceMethod objectInit, .code objectInit ⟨#[0xb1]⟩ 1 none, .fieldLink RX0 9 "PointRings$Curve" "p" "I", .fieldLink RX0 15 "PointRings$Curve" "a" "I", .fieldLink RX0 18 "PointRings$Curve" "b" "I", .fieldLink RX0 21 "PointRings$Curve" "first" "I", .fieldLink RX0 24 "PointRings$Curve" "second" "I"] ++ wsX00)
def wsX4_isBelow : List Cond := .code yX4_isBelow cX4_isBelow 2 (some .boolean) :: ([])
def wsX4_cubicMark : List Cond := .code yX4_cubicMark cX4_cubicMark 3 (some .int) :: ([])
def wsX4_leastFactor : List Cond := .code yX4_leastFactor cX4_leastFactor 2 (some .int) :: ([])
def wsX1_init : List Cond := .code yX1_init cX1_init 1 none :: ([.methodLink RX1 3 objectInit, .instanceMethod objectInit, .code objectInit ⟨#[0xb1]⟩ 1 none, .arrayClass .int, .fieldLink RX1 9 "PointRings$Roots" "least" "[I", .fieldLink RX1 15 "PointRings$Roots" "prime" "I"] ++ wsX10)
def wsX1_lay : List Cond := .code yX1_lay cX1_lay 3 none :: ([.fieldLink RX1 9 "PointRings$Roots" "least" "[I", .fieldLink RX1 15 "PointRings$Roots" "prime" "I"] ++ wsX10)
def wsX1_leastRoot : List Cond := .code yX1_leastRoot cX1_leastRoot 3 (some .int) :: ([.fieldLink RX1 15 "PointRings$Roots" "prime" "I", .fieldLink RX1 9 "PointRings$Roots" "least" "[I", .methodLink RX1 19 yX1_lay, .instanceMethod yX1_lay, .selects RX1 yX1_lay yX1_lay, .initialized RX1, .code yX1_lay cX1_lay 3 none] ++ wsX10)
def wsX2_init : List Cond := .code yX2_init cX2_init 1 none :: ([.methodLink RX2 3 objectInit, .instanceMethod objectInit, .code objectInit ⟨#[0xb1]⟩ 1 none, .arrayClass .int, .fieldLink RX2 9 "PointRings$Strides" "stepAt" "[I", .fieldLink RX2 15 "PointRings$Strides" "ends" "[I", .fieldLink RX2 18 "PointRings$Strides" "order" "I", .fieldLink RX2 22 "PointRings$Strides" "back" "I"] ++ wsX20)
def wsX3_init : List Cond := .code yX3_init cX3_init 2 none :: ([.methodLink RX3 3 objectInit, .instanceMethod objectInit, .code objectInit ⟨#[0xb1]⟩ 1 none, .fieldLink RX3 9 "PointRings$Survey" "roots" "LPointRings$Roots;", .classLink RX3 15 RX2, .instantiable RX2 6, .initialized RX2, .fieldLink RX3 18 "PointRings$Survey" "strides" "LPointRings$Strides;", .arrayClass .int, .fieldLink RX3 22 "PointRings$Survey" "halvesFound" "[I", .methodLink RX3 17 yX2_init, .instanceMethod yX2_init, .code yX2_init cX2_init 1 none, .methodLink RX2 3 objectInit, .fieldLink RX2 9 "PointRings$Strides" "stepAt" "[I", .fieldLink RX2 15 "PointRings$Strides" "ends" "[I", .fieldLink RX2 18 "PointRings$Strides" "order" "I", .fieldLink RX2 22 "PointRings$Strides" "back" "I"] ++ wsX30 ++ wsX20)
def wsX3_manyAt : List Cond := .code yX3_manyAt cX3_manyAt 3 (some .int) :: ([.fieldLink RX3 9 "PointRings$Survey" "roots" "LPointRings$Roots;", .methodLink RX3 64 yX1_leastRoot, .instanceMethod yX1_leastRoot, .selects RX1 yX1_leastRoot yX1_leastRoot, .initialized RX1, .code yX1_leastRoot cX1_leastRoot 3 (some .int), .fieldLink RX1 15 "PointRings$Roots" "prime" "I", .fieldLink RX1 9 "PointRings$Roots" "least" "[I", .methodLink RX1 19 yX1_lay, .instanceMethod yX1_lay, .selects RX1 yX1_lay yX1_lay, .code yX1_lay cX1_lay 3 none] ++ wsX30 ++ wsX10)
def wsX3_manyPoints : List Cond := .code yX3_manyPoints cX3_manyPoints 6 (some .int) :: ([.methodLink RX3 61 yX3_manyAt, .instanceMethod yX3_manyAt, .selects RX3 yX3_manyAt yX3_manyAt, .initialized RX3, .code yX3_manyAt cX3_manyAt 3 (some .int), .fieldLink RX3 9 "PointRings$Survey" "roots" "LPointRings$Roots;", .methodLink RX3 64 yX1_leastRoot, .instanceMethod yX1_leastRoot, .selects RX1 yX1_leastRoot yX1_leastRoot, .initialized RX1, .code yX1_leastRoot cX1_leastRoot 3 (some .int), .fieldLink RX1 15 "PointRings$Roots" "prime" "I", .fieldLink RX1 9 "PointRings$Roots" "least" "[I", .methodLink RX1 19 yX1_lay, .instanceMethod yX1_lay, .selects RX1 yX1_lay yX1_lay, .code yX1_lay cX1_lay 3 none] ++ wsX30 ++ wsX10)
def wsX3_manyWithoutA : List Cond := .code yX3_manyWithoutA cX3_manyWithoutA 5 (some .int) :: ([.methodLink RX3 41 yX3_manyPoints, .instanceMethod yX3_manyPoints, .selects RX3 yX3_manyPoints yX3_manyPoints, .initialized RX3, .code yX3_manyPoints cX3_manyPoints 6 (some .int), .methodLink RX3 61 yX3_manyAt, .instanceMethod yX3_manyAt, .selects RX3 yX3_manyAt yX3_manyAt, .code yX3_manyAt cX3_manyAt 3 (some .int), .fieldLink RX3 9 "PointRings$Survey" "roots" "LPointRings$Roots;", .methodLink RX3 64 yX1_leastRoot, .instanceMethod yX1_leastRoot, .selects RX1 yX1_leastRoot yX1_leastRoot, .initialized RX1, .code yX1_leastRoot cX1_leastRoot 3 (some .int), .fieldLink RX1 15 "PointRings$Roots" "prime" "I", .fieldLink RX1 9 "PointRings$Roots" "least" "[I", .methodLink RX1 19 yX1_lay, .instanceMethod yX1_lay, .selects RX1 yX1_lay yX1_lay, .code yX1_lay cX1_lay 3 none] ++ wsX30 ++ wsX10)
def wsX3_manyWithoutB : List Cond := .code yX3_manyWithoutB cX3_manyWithoutB 5 (some .int) :: ([.methodLink RX3 41 yX3_manyPoints, .instanceMethod yX3_manyPoints, .selects RX3 yX3_manyPoints yX3_manyPoints, .initialized RX3, .code yX3_manyPoints cX3_manyPoints 6 (some .int), .methodLink RX3 61 yX3_manyAt, .instanceMethod yX3_manyAt, .selects RX3 yX3_manyAt yX3_manyAt, .code yX3_manyAt cX3_manyAt 3 (some .int), .fieldLink RX3 9 "PointRings$Survey" "roots" "LPointRings$Roots;", .methodLink RX3 64 yX1_leastRoot, .instanceMethod yX1_leastRoot, .selects RX1 yX1_leastRoot yX1_leastRoot, .initialized RX1, .code yX1_leastRoot cX1_leastRoot 3 (some .int), .fieldLink RX1 15 "PointRings$Roots" "prime" "I", .fieldLink RX1 9 "PointRings$Roots" "least" "[I", .methodLink RX1 19 yX1_lay, .instanceMethod yX1_lay, .selects RX1 yX1_lay yX1_lay, .code yX1_lay cX1_lay 3 none] ++ wsX30 ++ wsX10)
def wsX3_pairsWith_r1 : List Cond := [Cond.methodLink RX3 138 yX3_manyWithoutA, Cond.instanceMethod yX3_manyWithoutA, Cond.selects RX3 yX3_manyWithoutA yX3_manyWithoutA, Cond.initialized RX3, Cond.code yX3_manyWithoutA cX3_manyWithoutA 5 (some .int), Cond.methodLink RX3 41 yX3_manyPoints, Cond.instanceMethod yX3_manyPoints, Cond.selects RX3 yX3_manyPoints yX3_manyPoints, Cond.code yX3_manyPoints cX3_manyPoints 6 (some .int), Cond.methodLink RX3 61 yX3_manyAt, Cond.instanceMethod yX3_manyAt, Cond.selects RX3 yX3_manyAt yX3_manyAt, Cond.code yX3_manyAt cX3_manyAt 3 (some .int), Cond.fieldLink RX3 9 "PointRings$Survey" "roots" "LPointRings$Roots;", Cond.methodLink RX3 64 yX1_leastRoot, Cond.instanceMethod yX1_leastRoot, Cond.selects RX1 yX1_leastRoot yX1_leastRoot, Cond.initialized RX1, Cond.code yX1_leastRoot cX1_leastRoot 3 (some .int), Cond.fieldLink RX1 15 "PointRings$Roots" "prime" "I", Cond.fieldLink RX1 9 "PointRings$Roots" "least" "[I", Cond.methodLink RX1 19 yX1_lay, Cond.instanceMethod yX1_lay, Cond.selects RX1 yX1_lay yX1_lay]
def wsX3_pairsWith_r2 : List Cond := [Cond.code yX1_lay cX1_lay 3 none, Cond.methodLink RX3 141 yX3_manyWithoutB, Cond.instanceMethod yX3_manyWithoutB, Cond.selects RX3 yX3_manyWithoutB yX3_manyWithoutB, Cond.code yX3_manyWithoutB cX3_manyWithoutB 5 (some .int)]
def wsX3_pairsWith : List Cond := .code yX3_pairsWith cX3_pairsWith 6 (some .int) :: ((wsX3_pairsWith_r1 ++ wsX3_pairsWith_r2) ++ wsX30 ++ wsX10)
def wsX3_kindsWith_r1 : List Cond := [Cond.methodLink RX3 138 yX3_manyWithoutA, Cond.instanceMethod yX3_manyWithoutA, Cond.selects RX3 yX3_manyWithoutA yX3_manyWithoutA, Cond.initialized RX3, Cond.code yX3_manyWithoutA cX3_manyWithoutA 5 (some .int), Cond.methodLink RX3 41 yX3_manyPoints, Cond.instanceMethod yX3_manyPoints, Cond.selects RX3 yX3_manyPoints yX3_manyPoints, Cond.code yX3_manyPoints cX3_manyPoints 6 (some .int), Cond.methodLink RX3 61 yX3_manyAt, Cond.instanceMethod yX3_manyAt, Cond.selects RX3 yX3_manyAt yX3_manyAt, Cond.code yX3_manyAt cX3_manyAt 3 (some .int), Cond.fieldLink RX3 9 "PointRings$Survey" "roots" "LPointRings$Roots;", Cond.methodLink RX3 64 yX1_leastRoot, Cond.instanceMethod yX1_leastRoot, Cond.selects RX1 yX1_leastRoot yX1_leastRoot, Cond.initialized RX1, Cond.code yX1_leastRoot cX1_leastRoot 3 (some .int), Cond.fieldLink RX1 15 "PointRings$Roots" "prime" "I", Cond.fieldLink RX1 9 "PointRings$Roots" "least" "[I", Cond.methodLink RX1 19 yX1_lay, Cond.instanceMethod yX1_lay, Cond.selects RX1 yX1_lay yX1_lay]
def wsX3_kindsWith_r2 : List Cond := [Cond.code yX1_lay cX1_lay 3 none, Cond.methodLink RX3 141 yX3_manyWithoutB, Cond.instanceMethod yX3_manyWithoutB, Cond.selects RX3 yX3_manyWithoutB yX3_manyWithoutB, Cond.code yX3_manyWithoutB cX3_manyWithoutB 5 (some .int)]
def wsX3_kindsWith : List Cond := .code yX3_kindsWith cX3_kindsWith 6 (some .int) :: ((wsX3_kindsWith_r1 ++ wsX3_kindsWith_r2) ++ wsX30 ++ wsX10)
def wsX4_isPrime : List Cond := .code yX4_isPrime cX4_isPrime 1 (some .boolean) :: ([.methodLink RX4 15 yX4_leastFactor, .static yX4_leastFactor, .initialized RX4, .code yX4_leastFactor cX4_leastFactor 2 (some .int)])
def wsX4_isFieldPrime : List Cond := .code yX4_isFieldPrime cX4_isFieldPrime 1 (some .boolean) :: ([.methodLink RX4 9 yX4_isPrime, .static yX4_isPrime, .initialized RX4, .code yX4_isPrime cX4_isPrime 1 (some .boolean), .methodLink RX4 15 yX4_leastFactor, .static yX4_leastFactor, .code yX4_leastFactor cX4_leastFactor 2 (some .int)])
def wsX5_init_r1 : List Cond := [Cond.methodLink RX5 3 objectInit, Cond.instanceMethod objectInit, Cond.code objectInit ⟨#[0xb1]⟩ 1 none, Cond.classLink RX5 9 RX0, Cond.fieldLink RX5 11 "PointRings" "held" "[LPointRings$Curve;", Cond.fieldLink RX5 15 "PointRings" "size" "I", Cond.classLink RX5 19 RX1, Cond.instantiable RX1 2, Cond.initialized RX1, Cond.fieldLink RX5 22 "PointRings" "roots" "LPointRings$Roots;", Cond.classLink RX5 26 RX3, Cond.instantiable RX3 3, Cond.initialized RX3, Cond.fieldLink RX5 31 "PointRings" "survey" "LPointRings$Survey;", Cond.methodLink RX5 21 yX1_init, Cond.instanceMethod yX1_init, Cond.code yX1_init cX1_init 1 none, Cond.methodLink RX1 3 objectInit, Cond.arrayClass .int, Cond.fieldLink RX1 9 "PointRings$Roots" "least" "[I", Cond.fieldLink RX1 15 "PointRings$Roots" "prime" "I", Cond.methodLink RX5 28 yX3_init, Cond.instanceMethod yX3_init, Cond.code yX3_init cX3_init 2 none]
def wsX5_init_r2 : List Cond := [Cond.methodLink RX3 3 objectInit, Cond.fieldLink RX3 9 "PointRings$Survey" "roots" "LPointRings$Roots;", Cond.classLink RX3 15 RX2, Cond.instantiable RX2 6, Cond.initialized RX2, Cond.fieldLink RX3 18 "PointRings$Survey" "strides" "LPointRings$Strides;", Cond.fieldLink RX3 22 "PointRings$Survey" "halvesFound" "[I", Cond.methodLink RX3 17 yX2_init, Cond.instanceMethod yX2_init, Cond.code yX2_init cX2_init 1 none, Cond.methodLink RX2 3 objectInit, Cond.fieldLink RX2 9 "PointRings$Strides" "stepAt" "[I", Cond.fieldLink RX2 15 "PointRings$Strides" "ends" "[I", Cond.fieldLink RX2 18 "PointRings$Strides" "order" "I", Cond.fieldLink RX2 22 "PointRings$Strides" "back" "I"]
def wsX5_init : List Cond := .code yX5_init cX5_init 1 none :: ((wsX5_init_r1 ++ wsX5_init_r2) ++ wsX50 ++ wsX10 ++ wsX30 ++ wsX20)
def wsX5_keep : List Cond := .code yX5_keep cX5_keep 2 (some .int) :: ([.fieldLink RX5 15 "PointRings" "size" "I", .fieldLink RX5 11 "PointRings" "held" "[LPointRings$Curve;"] ++ wsX50)
def wsX5_curve_r1 : List Cond := [Cond.classLink RX5 9 RX0, Cond.instantiable RX0 12, Cond.initialized RX0, Cond.methodLink RX5 35 yX4_isFieldPrime, Cond.static yX4_isFieldPrime, Cond.initialized RX4, Cond.code yX4_isFieldPrime cX4_isFieldPrime 1 (some .boolean), Cond.methodLink RX4 9 yX4_isPrime, Cond.static yX4_isPrime, Cond.code yX4_isPrime cX4_isPrime 1 (some .boolean), Cond.methodLink RX4 15 yX4_leastFactor, Cond.static yX4_leastFactor, Cond.code yX4_leastFactor cX4_leastFactor 2 (some .int), Cond.methodLink RX5 41 yX4_isBelow, Cond.static yX4_isBelow, Cond.code yX4_isBelow cX4_isBelow 2 (some .boolean), Cond.methodLink RX5 45 yX4_cubicMark, Cond.static yX4_cubicMark, Cond.code yX4_cubicMark cX4_cubicMark 3 (some .int), Cond.methodLink RX5 49 yX0_init, Cond.instanceMethod yX0_init, Cond.code yX0_init cX0_init 4 none, Cond.methodLink RX0 3 objectInit, Cond.instanceMethod objectInit]
def wsX5_curve_r2 : List Cond := [Cond.code objectInit ⟨#[0xb1]⟩ 1 none, Cond.fieldLink RX0 9 "PointRings$Curve" "p" "I", Cond.fieldLink RX0 15 "PointRings$Curve" "a" "I", Cond.fieldLink RX0 18 "PointRings$Curve" "b" "I", Cond.fieldLink RX0 21 "PointRings$Curve" "first" "I", Cond.fieldLink RX0 24 "PointRings$Curve" "second" "I", Cond.methodLink RX5 52 yX5_keep, Cond.instanceMethod yX5_keep, Cond.selects RX5 yX5_keep yX5_keep, Cond.initialized RX5, Cond.code yX5_keep cX5_keep 2 (some .int), Cond.fieldLink RX5 15 "PointRings" "size" "I", Cond.fieldLink RX5 11 "PointRings" "held" "[LPointRings$Curve;"]
def wsX5_curve : List Cond := .code yX5_curve cX5_curve 4 (some .int) :: ((wsX5_curve_r1 ++ wsX5_curve_r2) ++ wsX00 ++ wsX50)
def wsX5_at : List Cond := .code yX5_at cX5_at 2 (some (.object "PointRings$Curve")) :: ([.fieldLink RX5 15 "PointRings" "size" "I", .fieldLink RX5 11 "PointRings" "held" "[LPointRings$Curve;"] ++ wsX50)
def wsX5_census_r1 : List Cond := [Cond.fieldLink RX5 31 "PointRings" "survey" "LPointRings$Survey;", Cond.methodLink RX5 35 yX4_isFieldPrime, Cond.static yX4_isFieldPrime, Cond.initialized RX4, Cond.code yX4_isFieldPrime cX4_isFieldPrime 1 (some .boolean), Cond.methodLink RX4 9 yX4_isPrime, Cond.static yX4_isPrime, Cond.code yX4_isPrime cX4_isPrime 1 (some .boolean), Cond.methodLink RX4 15 yX4_leastFactor, Cond.static yX4_leastFactor, Cond.code yX4_leastFactor cX4_leastFactor 2 (some .int), Cond.methodLink RX5 220 yX3_pairsWith, Cond.instanceMethod yX3_pairsWith, Cond.selects RX3 yX3_pairsWith yX3_pairsWith, Cond.initialized RX3, Cond.code yX3_pairsWith cX3_pairsWith 6 (some .int), Cond.methodLink RX3 138 yX3_manyWithoutA, Cond.instanceMethod yX3_manyWithoutA, Cond.selects RX3 yX3_manyWithoutA yX3_manyWithoutA, Cond.code yX3_manyWithoutA cX3_manyWithoutA 5 (some .int), Cond.methodLink RX3 41 yX3_manyPoints, Cond.instanceMethod yX3_manyPoints, Cond.selects RX3 yX3_manyPoints yX3_manyPoints, Cond.code yX3_manyPoints cX3_manyPoints 6 (some .int)]
def wsX5_census_r2 : List Cond := [Cond.methodLink RX3 61 yX3_manyAt, Cond.instanceMethod yX3_manyAt, Cond.selects RX3 yX3_manyAt yX3_manyAt, Cond.code yX3_manyAt cX3_manyAt 3 (some .int), Cond.fieldLink RX3 9 "PointRings$Survey" "roots" "LPointRings$Roots;", Cond.methodLink RX3 64 yX1_leastRoot, Cond.instanceMethod yX1_leastRoot, Cond.selects RX1 yX1_leastRoot yX1_leastRoot, Cond.initialized RX1, Cond.code yX1_leastRoot cX1_leastRoot 3 (some .int), Cond.fieldLink RX1 15 "PointRings$Roots" "prime" "I", Cond.fieldLink RX1 9 "PointRings$Roots" "least" "[I", Cond.methodLink RX1 19 yX1_lay, Cond.instanceMethod yX1_lay, Cond.selects RX1 yX1_lay yX1_lay, Cond.code yX1_lay cX1_lay 3 none, Cond.methodLink RX3 141 yX3_manyWithoutB, Cond.instanceMethod yX3_manyWithoutB, Cond.selects RX3 yX3_manyWithoutB yX3_manyWithoutB, Cond.code yX3_manyWithoutB cX3_manyWithoutB 5 (some .int)]
def wsX5_census : List Cond := .code yX5_census cX5_census 3 (some .int) :: ((wsX5_census_r1 ++ wsX5_census_r2) ++ wsX50 ++ wsX30 ++ wsX10)
def wsX5_kinds_r1 : List Cond := [Cond.fieldLink RX5 31 "PointRings" "survey" "LPointRings$Survey;", Cond.methodLink RX5 35 yX4_isFieldPrime, Cond.static yX4_isFieldPrime, Cond.initialized RX4, Cond.code yX4_isFieldPrime cX4_isFieldPrime 1 (some .boolean), Cond.methodLink RX4 9 yX4_isPrime, Cond.static yX4_isPrime, Cond.code yX4_isPrime cX4_isPrime 1 (some .boolean), Cond.methodLink RX4 15 yX4_leastFactor, Cond.static yX4_leastFactor, Cond.code yX4_leastFactor cX4_leastFactor 2 (some .int), Cond.methodLink RX5 223 yX3_kindsWith, Cond.instanceMethod yX3_kindsWith, Cond.selects RX3 yX3_kindsWith yX3_kindsWith, Cond.initialized RX3, Cond.code yX3_kindsWith cX3_kindsWith 6 (some .int), Cond.methodLink RX3 138 yX3_manyWithoutA, Cond.instanceMethod yX3_manyWithoutA, Cond.selects RX3 yX3_manyWithoutA yX3_manyWithoutA, Cond.code yX3_manyWithoutA cX3_manyWithoutA 5 (some .int), Cond.methodLink RX3 41 yX3_manyPoints, Cond.instanceMethod yX3_manyPoints, Cond.selects RX3 yX3_manyPoints yX3_manyPoints, Cond.code yX3_manyPoints cX3_manyPoints 6 (some .int)]
def wsX5_kinds_r2 : List Cond := [Cond.methodLink RX3 61 yX3_manyAt, Cond.instanceMethod yX3_manyAt, Cond.selects RX3 yX3_manyAt yX3_manyAt, Cond.code yX3_manyAt cX3_manyAt 3 (some .int), Cond.fieldLink RX3 9 "PointRings$Survey" "roots" "LPointRings$Roots;", Cond.methodLink RX3 64 yX1_leastRoot, Cond.instanceMethod yX1_leastRoot, Cond.selects RX1 yX1_leastRoot yX1_leastRoot, Cond.initialized RX1, Cond.code yX1_leastRoot cX1_leastRoot 3 (some .int), Cond.fieldLink RX1 15 "PointRings$Roots" "prime" "I", Cond.fieldLink RX1 9 "PointRings$Roots" "least" "[I", Cond.methodLink RX1 19 yX1_lay, Cond.instanceMethod yX1_lay, Cond.selects RX1 yX1_lay yX1_lay, Cond.code yX1_lay cX1_lay 3 none, Cond.methodLink RX3 141 yX3_manyWithoutB, Cond.instanceMethod yX3_manyWithoutB, Cond.selects RX3 yX3_manyWithoutB yX3_manyWithoutB, Cond.code yX3_manyWithoutB cX3_manyWithoutB 5 (some .int)]
def wsX5_kinds : List Cond := .code yX5_kinds cX5_kinds 3 (some .int) :: ((wsX5_kinds_r1 ++ wsX5_kinds_r2) ++ wsX50 ++ wsX30 ++ wsX10)
def wsX5_curves : List Cond := .code yX5_curves cX5_curves 1 (some .int) :: ([.fieldLink RX5 15 "PointRings" "size" "I"] ++ wsX50)
def wsX5_drop : List Cond := .code yX5_drop cX5_drop 1 (some .int) :: ([.fieldLink RX5 15 "PointRings" "size" "I", .fieldLink RX5 11 "PointRings" "held" "[LPointRings$Curve;"] ++ wsX50)
def wsX6_init : List Cond := .code yX6_init cX6_init 1 none :: ([.methodLink RX6 1 objectInit, .instanceMethod objectInit, .code objectInit ⟨#[0xb1]⟩ 1 none, .arrayClass .int, .fieldLink RX6 7 "PointRingsModel" "inverses" "[I", .fieldLink RX6 13 "PointRingsModel" "roots" "[I", .fieldLink RX6 16 "PointRingsModel" "points" "[I", .fieldLink RX6 19 "PointRingsModel" "ahead" "[I", .fieldLink RX6 22 "PointRingsModel" "ps" "[I", .fieldLink RX6 25 "PointRingsModel" "as" "[I", .fieldLink RX6 28 "PointRingsModel" "bs" "[I", .fieldLink RX6 31 "PointRingsModel" "from" "[I", .fieldLink RX6 34 "PointRingsModel" "kernelPoint" "[I", .fieldLink RX6 37 "PointRingsModel" "kernelOrder" "[I", .arrayClass .boolean, .fieldLink RX6 40 "PointRingsModel" "marked" "[Z", .fieldLink RX6 44 "PointRingsModel" "seen" "[Z"] ++ wsX60)
def wsX6_in : List Cond := .code yX6_in cX6_in 6 (some .boolean) :: ([])
def wsX6_isPrime : List Cond := .code yX6_isPrime cX6_isPrime 3 (some .boolean) :: ([])
def wsX6_takePrime : List Cond := .code yX6_takePrime cX6_takePrime 3 none :: ([.fieldLink RX6 47 "PointRingsModel" "p" "I", .fieldLink RX6 51 "PointRingsModel" "rooted" "I", .fieldLink RX6 54 "PointRingsModel" "pointMany" "I", .fieldLink RX6 7 "PointRingsModel" "inverses" "[I", .fieldLink RX6 13 "PointRingsModel" "roots" "[I"] ++ wsX60)
def wsX6_mod : List Cond := .code yX6_mod cX6_mod 4 (some .int) :: ([.fieldLink RX6 47 "PointRingsModel" "p" "I"] ++ wsX60)
def wsX6_mul : List Cond := .code yX6_mul cX6_mul 3 (some .int) :: ([.fieldLink RX6 47 "PointRingsModel" "p" "I"] ++ wsX60)
def wsX6_right : List Cond := .code yX6_right cX6_right 2 (some .int) :: ([.fieldLink RX6 61 "PointRingsModel" "a" "I", .fieldLink RX6 64 "PointRingsModel" "b" "I", .methodLink RX6 57 yX6_mul, .instanceMethod yX6_mul, .selects RX6 yX6_mul yX6_mul, .initialized RX6, .code yX6_mul cX6_mul 3 (some .int), .fieldLink RX6 47 "PointRingsModel" "p" "I", .methodLink RX6 67 yX6_mod, .instanceMethod yX6_mod, .selects RX6 yX6_mod yX6_mod, .code yX6_mod cX6_mod 4 (some .int)] ++ wsX60)
def wsX6_take : List Cond := .code yX6_take cX6_take 4 none :: ([.fieldLink RX6 61 "PointRingsModel" "a" "I", .fieldLink RX6 64 "PointRingsModel" "b" "I", .fieldLink RX6 54 "PointRingsModel" "pointMany" "I", .methodLink RX6 71 yX6_takePrime, .instanceMethod yX6_takePrime, .selects RX6 yX6_takePrime yX6_takePrime, .initialized RX6, .code yX6_takePrime cX6_takePrime 3 none, .fieldLink RX6 47 "PointRingsModel" "p" "I", .fieldLink RX6 51 "PointRingsModel" "rooted" "I", .fieldLink RX6 7 "PointRingsModel" "inverses" "[I", .fieldLink RX6 13 "PointRingsModel" "roots" "[I"] ++ wsX60)
def wsX6_isWanted : List Cond := .code yX6_isWanted cX6_isWanted 1 (some .boolean) :: ([.constantLong RX6 96 (5), .constantLong RX6 98 (10007), .methodLink RX6 100 yX6_in, .static yX6_in, .initialized RX6, .code yX6_in cX6_in 6 (some .boolean), .methodLink RX6 104 yX6_isPrime, .static yX6_isPrime, .code yX6_isPrime cX6_isPrime 3 (some .boolean)])
def wsX6_split : List Cond := .code yX6_split cX6_split 1 (some .int) :: ([.constantLong RX6 108 (4), .fieldLink RX6 61 "PointRingsModel" "a" "I", .constantLong RX6 110 (27), .fieldLink RX6 64 "PointRingsModel" "b" "I", .methodLink RX6 57 yX6_mul, .instanceMethod yX6_mul, .selects RX6 yX6_mul yX6_mul, .initialized RX6, .code yX6_mul cX6_mul 3 (some .int), .fieldLink RX6 47 "PointRingsModel" "p" "I", .methodLink RX6 67 yX6_mod, .instanceMethod yX6_mod, .selects RX6 yX6_mod yX6_mod, .code yX6_mod cX6_mod 4 (some .int)] ++ wsX60)
def wsX6_make : List Cond := .code yX6_make cX6_make 4 (some .int) :: ([.fieldLink RX6 22 "PointRingsModel" "ps" "[I", .fieldLink RX6 112 "PointRingsModel" "curves" "I", .fieldLink RX6 25 "PointRingsModel" "as" "[I", .fieldLink RX6 28 "PointRingsModel" "bs" "[I", .fieldLink RX6 31 "PointRingsModel" "from" "[I"] ++ wsX60)
def wsX6_curve_r1 : List Cond := [Cond.fieldLink RX6 112 "PointRingsModel" "curves" "I", Cond.methodLink RX6 115 yX6_isWanted, Cond.static yX6_isWanted, Cond.initialized RX6, Cond.code yX6_isWanted cX6_isWanted 1 (some .boolean), Cond.constantLong RX6 96 (5), Cond.constantLong RX6 98 (10007), Cond.methodLink RX6 100 yX6_in, Cond.static yX6_in, Cond.code yX6_in cX6_in 6 (some .boolean), Cond.methodLink RX6 104 yX6_isPrime, Cond.static yX6_isPrime, Cond.code yX6_isPrime cX6_isPrime 3 (some .boolean), Cond.methodLink RX6 118 yX6_take, Cond.instanceMethod yX6_take, Cond.selects RX6 yX6_take yX6_take, Cond.code yX6_take cX6_take 4 none, Cond.fieldLink RX6 61 "PointRingsModel" "a" "I", Cond.fieldLink RX6 64 "PointRingsModel" "b" "I", Cond.fieldLink RX6 54 "PointRingsModel" "pointMany" "I", Cond.methodLink RX6 71 yX6_takePrime, Cond.instanceMethod yX6_takePrime, Cond.selects RX6 yX6_takePrime yX6_takePrime, Cond.code yX6_takePrime cX6_takePrime 3 none]
def wsX6_curve_r2 : List Cond := [Cond.fieldLink RX6 47 "PointRingsModel" "p" "I", Cond.fieldLink RX6 51 "PointRingsModel" "rooted" "I", Cond.fieldLink RX6 7 "PointRingsModel" "inverses" "[I", Cond.fieldLink RX6 13 "PointRingsModel" "roots" "[I", Cond.methodLink RX6 122 yX6_split, Cond.instanceMethod yX6_split, Cond.selects RX6 yX6_split yX6_split, Cond.code yX6_split cX6_split 1 (some .int), Cond.constantLong RX6 108 (4), Cond.constantLong RX6 110 (27), Cond.methodLink RX6 57 yX6_mul, Cond.instanceMethod yX6_mul, Cond.selects RX6 yX6_mul yX6_mul, Cond.code yX6_mul cX6_mul 3 (some .int), Cond.methodLink RX6 67 yX6_mod, Cond.instanceMethod yX6_mod, Cond.selects RX6 yX6_mod yX6_mod, Cond.code yX6_mod cX6_mod 4 (some .int), Cond.methodLink RX6 126 yX6_make, Cond.instanceMethod yX6_make, Cond.selects RX6 yX6_make yX6_make, Cond.code yX6_make cX6_make 4 (some .int), Cond.fieldLink RX6 22 "PointRingsModel" "ps" "[I", Cond.fieldLink RX6 25 "PointRingsModel" "as" "[I"]
def wsX6_curve_r3 : List Cond := [Cond.fieldLink RX6 28 "PointRingsModel" "bs" "[I", Cond.fieldLink RX6 31 "PointRingsModel" "from" "[I"]
def wsX6_curve : List Cond := .code yX6_curve cX6_curve 4 (some .int) :: ((wsX6_curve_r1 ++ (wsX6_curve_r2 ++ wsX6_curve_r3)) ++ wsX60)
def wsX6_jOf : List Cond := .code yX6_jOf cX6_jOf 2 (some .int) :: ([.fieldLink RX6 61 "PointRingsModel" "a" "I", .constantLong RX6 130 (1728), .fieldLink RX6 7 "PointRingsModel" "inverses" "[I", .methodLink RX6 57 yX6_mul, .instanceMethod yX6_mul, .selects RX6 yX6_mul yX6_mul, .initialized RX6, .code yX6_mul cX6_mul 3 (some .int), .fieldLink RX6 47 "PointRingsModel" "p" "I", .methodLink RX6 67 yX6_mod, .instanceMethod yX6_mod, .selects RX6 yX6_mod yX6_mod, .code yX6_mod cX6_mod 4 (some .int), .methodLink RX6 122 yX6_split, .instanceMethod yX6_split, .selects RX6 yX6_split yX6_split, .code yX6_split cX6_split 1 (some .int), .constantLong RX6 108 (4), .constantLong RX6 110 (27), .fieldLink RX6 64 "PointRingsModel" "b" "I"] ++ wsX60)
def wsX6_all_r1 : List Cond := [Cond.constantLong RX6 96 (5), Cond.constantLong RX6 182 (61), Cond.fieldLink RX6 44 "PointRingsModel" "seen" "[Z", Cond.fieldLink RX6 13 "PointRingsModel" "roots" "[I", Cond.methodLink RX6 100 yX6_in, Cond.static yX6_in, Cond.initialized RX6, Cond.code yX6_in cX6_in 6 (some .boolean), Cond.methodLink RX6 104 yX6_isPrime, Cond.static yX6_isPrime, Cond.code yX6_isPrime cX6_isPrime 3 (some .boolean), Cond.methodLink RX6 71 yX6_takePrime, Cond.instanceMethod yX6_takePrime, Cond.selects RX6 yX6_takePrime yX6_takePrime, Cond.code yX6_takePrime cX6_takePrime 3 none, Cond.fieldLink RX6 47 "PointRingsModel" "p" "I", Cond.fieldLink RX6 51 "PointRingsModel" "rooted" "I", Cond.fieldLink RX6 54 "PointRingsModel" "pointMany" "I", Cond.fieldLink RX6 7 "PointRingsModel" "inverses" "[I", Cond.methodLink RX6 118 yX6_take, Cond.instanceMethod yX6_take, Cond.selects RX6 yX6_take yX6_take, Cond.code yX6_take cX6_take 4 none, Cond.fieldLink RX6 61 "PointRingsModel" "a" "I"]
def wsX6_all_r2 : List Cond := [Cond.fieldLink RX6 64 "PointRingsModel" "b" "I", Cond.methodLink RX6 122 yX6_split, Cond.instanceMethod yX6_split, Cond.selects RX6 yX6_split yX6_split, Cond.code yX6_split cX6_split 1 (some .int), Cond.constantLong RX6 108 (4), Cond.constantLong RX6 110 (27), Cond.methodLink RX6 57 yX6_mul, Cond.instanceMethod yX6_mul, Cond.selects RX6 yX6_mul yX6_mul, Cond.code yX6_mul cX6_mul 3 (some .int), Cond.methodLink RX6 67 yX6_mod, Cond.instanceMethod yX6_mod, Cond.selects RX6 yX6_mod yX6_mod, Cond.code yX6_mod cX6_mod 4 (some .int), Cond.methodLink RX6 75 yX6_right, Cond.instanceMethod yX6_right, Cond.selects RX6 yX6_right yX6_right, Cond.code yX6_right cX6_right 2 (some .int), Cond.methodLink RX6 135 yX6_jOf, Cond.instanceMethod yX6_jOf, Cond.selects RX6 yX6_jOf yX6_jOf, Cond.code yX6_jOf cX6_jOf 2 (some .int), Cond.constantLong RX6 130 (1728)]
def wsX6_all : List Cond := .code yX6_all cX6_all 10 (some .int) :: ((wsX6_all_r1 ++ wsX6_all_r2) ++ wsX60)
def wsX6_census_r1 : List Cond := [Cond.methodLink RX6 184 yX6_all, Cond.instanceMethod yX6_all, Cond.selects RX6 yX6_all yX6_all, Cond.initialized RX6, Cond.code yX6_all cX6_all 10 (some .int), Cond.constantLong RX6 96 (5), Cond.constantLong RX6 182 (61), Cond.fieldLink RX6 44 "PointRingsModel" "seen" "[Z", Cond.fieldLink RX6 13 "PointRingsModel" "roots" "[I", Cond.methodLink RX6 100 yX6_in, Cond.static yX6_in, Cond.code yX6_in cX6_in 6 (some .boolean), Cond.methodLink RX6 104 yX6_isPrime, Cond.static yX6_isPrime, Cond.code yX6_isPrime cX6_isPrime 3 (some .boolean), Cond.methodLink RX6 71 yX6_takePrime, Cond.instanceMethod yX6_takePrime, Cond.selects RX6 yX6_takePrime yX6_takePrime, Cond.code yX6_takePrime cX6_takePrime 3 none, Cond.fieldLink RX6 47 "PointRingsModel" "p" "I", Cond.fieldLink RX6 51 "PointRingsModel" "rooted" "I", Cond.fieldLink RX6 54 "PointRingsModel" "pointMany" "I", Cond.fieldLink RX6 7 "PointRingsModel" "inverses" "[I", Cond.methodLink RX6 118 yX6_take]
def wsX6_census_r2 : List Cond := [Cond.instanceMethod yX6_take, Cond.selects RX6 yX6_take yX6_take, Cond.code yX6_take cX6_take 4 none, Cond.fieldLink RX6 61 "PointRingsModel" "a" "I", Cond.fieldLink RX6 64 "PointRingsModel" "b" "I", Cond.methodLink RX6 122 yX6_split, Cond.instanceMethod yX6_split, Cond.selects RX6 yX6_split yX6_split, Cond.code yX6_split cX6_split 1 (some .int), Cond.constantLong RX6 108 (4), Cond.constantLong RX6 110 (27), Cond.methodLink RX6 57 yX6_mul, Cond.instanceMethod yX6_mul, Cond.selects RX6 yX6_mul yX6_mul, Cond.code yX6_mul cX6_mul 3 (some .int), Cond.methodLink RX6 67 yX6_mod, Cond.instanceMethod yX6_mod, Cond.selects RX6 yX6_mod yX6_mod, Cond.code yX6_mod cX6_mod 4 (some .int), Cond.methodLink RX6 75 yX6_right, Cond.instanceMethod yX6_right, Cond.selects RX6 yX6_right yX6_right, Cond.code yX6_right cX6_right 2 (some .int), Cond.methodLink RX6 135 yX6_jOf]
def wsX6_census_r3 : List Cond := [Cond.instanceMethod yX6_jOf, Cond.selects RX6 yX6_jOf yX6_jOf, Cond.code yX6_jOf cX6_jOf 2 (some .int), Cond.constantLong RX6 130 (1728)]
def wsX6_census : List Cond := .code yX6_census cX6_census 3 (some .int) :: ((wsX6_census_r1 ++ (wsX6_census_r2 ++ wsX6_census_r3)) ++ wsX60)
def wsX6_kinds_r1 : List Cond := [Cond.methodLink RX6 184 yX6_all, Cond.instanceMethod yX6_all, Cond.selects RX6 yX6_all yX6_all, Cond.initialized RX6, Cond.code yX6_all cX6_all 10 (some .int), Cond.constantLong RX6 96 (5), Cond.constantLong RX6 182 (61), Cond.fieldLink RX6 44 "PointRingsModel" "seen" "[Z", Cond.fieldLink RX6 13 "PointRingsModel" "roots" "[I", Cond.methodLink RX6 100 yX6_in, Cond.static yX6_in, Cond.code yX6_in cX6_in 6 (some .boolean), Cond.methodLink RX6 104 yX6_isPrime, Cond.static yX6_isPrime, Cond.code yX6_isPrime cX6_isPrime 3 (some .boolean), Cond.methodLink RX6 71 yX6_takePrime, Cond.instanceMethod yX6_takePrime, Cond.selects RX6 yX6_takePrime yX6_takePrime, Cond.code yX6_takePrime cX6_takePrime 3 none, Cond.fieldLink RX6 47 "PointRingsModel" "p" "I", Cond.fieldLink RX6 51 "PointRingsModel" "rooted" "I", Cond.fieldLink RX6 54 "PointRingsModel" "pointMany" "I", Cond.fieldLink RX6 7 "PointRingsModel" "inverses" "[I", Cond.methodLink RX6 118 yX6_take]
def wsX6_kinds_r2 : List Cond := [Cond.instanceMethod yX6_take, Cond.selects RX6 yX6_take yX6_take, Cond.code yX6_take cX6_take 4 none, Cond.fieldLink RX6 61 "PointRingsModel" "a" "I", Cond.fieldLink RX6 64 "PointRingsModel" "b" "I", Cond.methodLink RX6 122 yX6_split, Cond.instanceMethod yX6_split, Cond.selects RX6 yX6_split yX6_split, Cond.code yX6_split cX6_split 1 (some .int), Cond.constantLong RX6 108 (4), Cond.constantLong RX6 110 (27), Cond.methodLink RX6 57 yX6_mul, Cond.instanceMethod yX6_mul, Cond.selects RX6 yX6_mul yX6_mul, Cond.code yX6_mul cX6_mul 3 (some .int), Cond.methodLink RX6 67 yX6_mod, Cond.instanceMethod yX6_mod, Cond.selects RX6 yX6_mod yX6_mod, Cond.code yX6_mod cX6_mod 4 (some .int), Cond.methodLink RX6 75 yX6_right, Cond.instanceMethod yX6_right, Cond.selects RX6 yX6_right yX6_right, Cond.code yX6_right cX6_right 2 (some .int), Cond.methodLink RX6 135 yX6_jOf]
def wsX6_kinds_r3 : List Cond := [Cond.instanceMethod yX6_jOf, Cond.selects RX6 yX6_jOf yX6_jOf, Cond.code yX6_jOf cX6_jOf 2 (some .int), Cond.constantLong RX6 130 (1728)]
def wsX6_kinds : List Cond := .code yX6_kinds cX6_kinds 3 (some .int) :: ((wsX6_kinds_r1 ++ (wsX6_kinds_r2 ++ wsX6_kinds_r3)) ++ wsX60)
def wsX6_curves : List Cond := .code yX6_curves cX6_curves 1 (some .int) :: ([.fieldLink RX6 112 "PointRingsModel" "curves" "I"] ++ wsX60)
def wsX6_drop : List Cond := .code yX6_drop cX6_drop 1 (some .int) :: ([.fieldLink RX6 112 "PointRingsModel" "curves" "I"] ++ wsX60)
theorem dX0_init_0 : decode cX0_init 0 = .ok (.aload_n 0, 1) := by decide +kernel
theorem dX0_init_1 : decode cX0_init 1 = .ok (.invokespecial 3, 3) := by decide +kernel
theorem dX0_init_4 : decode cX0_init 4 = .ok (.aload_n 0, 1) := by decide +kernel
theorem dX0_init_5 : decode cX0_init 5 = .ok (.iload_n 1, 1) := by decide +kernel
theorem dX0_init_6 : decode cX0_init 6 = .ok (.putfield 9, 3) := by decide +kernel
theorem dX0_init_9 : decode cX0_init 9 = .ok (.aload_n 0, 1) := by decide +kernel
theorem dX0_init_10 : decode cX0_init 10 = .ok (.iload_n 2, 1) := by decide +kernel
theorem dX0_init_11 : decode cX0_init 11 = .ok (.putfield 15, 3) := by decide +kernel
theorem dX0_init_14 : decode cX0_init 14 = .ok (.aload_n 0, 1) := by decide +kernel
theorem dX0_init_15 : decode cX0_init 15 = .ok (.iload_n 3, 1) := by decide +kernel
theorem dX0_init_16 : decode cX0_init 16 = .ok (.putfield 18, 3) := by decide +kernel
theorem dX0_init_19 : decode cX0_init 19 = .ok (.aload_n 0, 1) := by decide +kernel
theorem dX0_init_20 : decode cX0_init 20 = .ok (.iconst (-1), 1) := by decide +kernel
theorem dX0_init_21 : decode cX0_init 21 = .ok (.putfield 21, 3) := by decide +kernel
theorem dX0_init_24 : decode cX0_init 24 = .ok (.aload_n 0, 1) := by decide +kernel
theorem dX0_init_25 : decode cX0_init 25 = .ok (.iconst (-1), 1) := by decide +kernel
theorem dX0_init_26 : decode cX0_init 26 = .ok (.putfield 24, 3) := by decide +kernel
theorem dX0_init_29 : decode cX0_init 29 = .ok (.return_, 1) := by decide +kernel
theorem dX1_init_0 : decode cX1_init 0 = .ok (.aload_n 0, 1) := by decide +kernel
theorem dX1_init_1 : decode cX1_init 1 = .ok (.invokespecial 3, 3) := by decide +kernel
theorem dX1_init_4 : decode cX1_init 4 = .ok (.aload_n 0, 1) := by decide +kernel
theorem dX1_init_5 : decode cX1_init 5 = .ok (.sipush 10007, 3) := by decide +kernel
theorem dX1_init_8 : decode cX1_init 8 = .ok (.newarray .int, 2) := by decide +kernel
theorem dX1_init_10 : decode cX1_init 10 = .ok (.putfield 9, 3) := by decide +kernel
theorem dX1_init_13 : decode cX1_init 13 = .ok (.aload_n 0, 1) := by decide +kernel
theorem dX1_init_14 : decode cX1_init 14 = .ok (.iconst 0, 1) := by decide +kernel
theorem dX1_init_15 : decode cX1_init 15 = .ok (.putfield 15, 3) := by decide +kernel
theorem dX1_init_18 : decode cX1_init 18 = .ok (.return_, 1) := by decide +kernel
set_option maxRecDepth 20000 in
theorem ggX1_leastRoot_X1_lay : GoodIn wsX1_leastRoot wsX1_lay := goodIn_r _ [7, 2, 1, 8, 9] (by decide +kernel) (by decide +kernel)
set_option maxRecDepth 20000 in
theorem gX1_leastRoot_X1_lay : GoodIn wsX1_leastRoot (wsV RX1 19 RX1 yX1_lay wsX1_lay) := goodIn_app (goodIn_of _ (by decide +kernel)) ggX1_leastRoot_X1_lay
theorem dX1_leastRoot_0 : decode cX1_leastRoot 0 = .ok (.iload_n 2, 1) := by decide +kernel
theorem dX1_leastRoot_1 : decode cX1_leastRoot 1 = .ok (.aload_n 0, 1) := by decide +kernel
theorem dX1_leastRoot_2 : decode cX1_leastRoot 2 = .ok (.getfield 15, 3) := by decide +kernel
theorem dX1_leastRoot_5 : decode cX1_leastRoot 5 = .ok (.if_icmp .eq 8, 3) := by decide +kernel
theorem dX1_leastRoot_8 : decode cX1_leastRoot 8 = .ok (.aload_n 0, 1) := by decide +kernel
theorem dX1_leastRoot_9 : decode cX1_leastRoot 9 = .ok (.iload_n 2, 1) := by decide +kernel
theorem dX1_leastRoot_10 : decode cX1_leastRoot 10 = .ok (.invokevirtual 19, 3) := by decide +kernel
theorem dX1_leastRoot_13 : decode cX1_leastRoot 13 = .ok (.iload_n 1, 1) := by decide +kernel
theorem dX1_leastRoot_14 : decode cX1_leastRoot 14 = .ok (.ifCond .lt 20, 3) := by decide +kernel
theorem dX1_leastRoot_17 : decode cX1_leastRoot 17 = .ok (.iload_n 1, 1) := by decide +kernel
theorem dX1_leastRoot_18 : decode cX1_leastRoot 18 = .ok (.aload_n 0, 1) := by decide +kernel
theorem dX1_leastRoot_19 : decode cX1_leastRoot 19 = .ok (.getfield 15, 3) := by decide +kernel
theorem dX1_leastRoot_22 : decode cX1_leastRoot 22 = .ok (.if_icmp .ge 12, 3) := by decide +kernel
theorem dX1_leastRoot_25 : decode cX1_leastRoot 25 = .ok (.aload_n 0, 1) := by decide +kernel
theorem dX1_leastRoot_26 : decode cX1_leastRoot 26 = .ok (.getfield 9, 3) := by decide +kernel
theorem dX1_leastRoot_29 : decode cX1_leastRoot 29 = .ok (.iload_n 1, 1) := by decide +kernel
theorem dX1_leastRoot_30 : decode cX1_leastRoot 30 = .ok (.iaload, 1) := by decide +kernel
theorem dX1_leastRoot_31 : decode cX1_leastRoot 31 = .ok (.goto 4, 3) := by decide +kernel
theorem dX1_leastRoot_34 : decode cX1_leastRoot 34 = .ok (.iconst (-1), 1) := by decide +kernel
theorem dX1_leastRoot_35 : decode cX1_leastRoot 35 = .ok (.ireturn, 1) := by decide +kernel
theorem dX1_lay_0 : decode cX1_lay 0 = .ok (.iload_n 1, 1) := by decide +kernel
theorem dX1_lay_1 : decode cX1_lay 1 = .ok (.iconst 5, 1) := by decide +kernel
theorem dX1_lay_2 : decode cX1_lay 2 = .ok (.if_icmp .lt 12, 3) := by decide +kernel
theorem dX1_lay_5 : decode cX1_lay 5 = .ok (.iload_n 1, 1) := by decide +kernel
theorem dX1_lay_6 : decode cX1_lay 6 = .ok (.aload_n 0, 1) := by decide +kernel
theorem dX1_lay_7 : decode cX1_lay 7 = .ok (.getfield 9, 3) := by decide +kernel
theorem dX1_lay_10 : decode cX1_lay 10 = .ok (.arraylength, 1) := by decide +kernel
theorem dX1_lay_11 : decode cX1_lay 11 = .ok (.if_icmp .le 4, 3) := by decide +kernel
theorem dX1_lay_14 : decode cX1_lay 14 = .ok (.return_, 1) := by decide +kernel
theorem dX1_lay_15 : decode cX1_lay 15 = .ok (.aload_n 0, 1) := by decide +kernel
theorem dX1_lay_16 : decode cX1_lay 16 = .ok (.iload_n 1, 1) := by decide +kernel
theorem dX1_lay_17 : decode cX1_lay 17 = .ok (.putfield 15, 3) := by decide +kernel
theorem dX1_lay_20 : decode cX1_lay 20 = .ok (.iconst 0, 1) := by decide +kernel
theorem dX1_lay_21 : decode cX1_lay 21 = .ok (.istore_n 2, 1) := by decide +kernel
theorem dX1_lay_22 : decode cX1_lay 22 = .ok (.iload_n 2, 1) := by decide +kernel
theorem dX1_lay_23 : decode cX1_lay 23 = .ok (.iload_n 1, 1) := by decide +kernel
theorem dX1_lay_24 : decode cX1_lay 24 = .ok (.if_icmp .ge 16, 3) := by decide +kernel
theorem dX1_lay_27 : decode cX1_lay 27 = .ok (.aload_n 0, 1) := by decide +kernel
theorem dX1_lay_28 : decode cX1_lay 28 = .ok (.getfield 9, 3) := by decide +kernel
theorem dX1_lay_31 : decode cX1_lay 31 = .ok (.iload_n 2, 1) := by decide +kernel
theorem dX1_lay_32 : decode cX1_lay 32 = .ok (.iconst (-1), 1) := by decide +kernel
theorem dX1_lay_33 : decode cX1_lay 33 = .ok (.iastore, 1) := by decide +kernel
theorem dX1_lay_34 : decode cX1_lay 34 = .ok (.iinc 2 1, 3) := by decide +kernel
theorem dX1_lay_37 : decode cX1_lay 37 = .ok (.goto (-15), 3) := by decide +kernel
theorem dX1_lay_40 : decode cX1_lay 40 = .ok (.iload_n 1, 1) := by decide +kernel
theorem dX1_lay_41 : decode cX1_lay 41 = .ok (.iconst 2, 1) := by decide +kernel
theorem dX1_lay_42 : decode cX1_lay 42 = .ok (.idiv, 1) := by decide +kernel
theorem dX1_lay_43 : decode cX1_lay 43 = .ok (.istore_n 2, 1) := by decide +kernel
theorem dX1_lay_44 : decode cX1_lay 44 = .ok (.iload_n 2, 1) := by decide +kernel
theorem dX1_lay_45 : decode cX1_lay 45 = .ok (.ifCond .lt 20, 3) := by decide +kernel
theorem dX1_lay_48 : decode cX1_lay 48 = .ok (.aload_n 0, 1) := by decide +kernel
theorem dX1_lay_49 : decode cX1_lay 49 = .ok (.getfield 9, 3) := by decide +kernel
theorem dX1_lay_52 : decode cX1_lay 52 = .ok (.iload_n 2, 1) := by decide +kernel
theorem dX1_lay_53 : decode cX1_lay 53 = .ok (.iload_n 2, 1) := by decide +kernel
theorem dX1_lay_54 : decode cX1_lay 54 = .ok (.imul, 1) := by decide +kernel
theorem dX1_lay_55 : decode cX1_lay 55 = .ok (.iload_n 1, 1) := by decide +kernel
theorem dX1_lay_56 : decode cX1_lay 56 = .ok (.irem, 1) := by decide +kernel
theorem dX1_lay_57 : decode cX1_lay 57 = .ok (.iload_n 2, 1) := by decide +kernel
theorem dX1_lay_58 : decode cX1_lay 58 = .ok (.iastore, 1) := by decide +kernel
theorem dX1_lay_59 : decode cX1_lay 59 = .ok (.iinc 2 (-1), 3) := by decide +kernel
theorem dX1_lay_62 : decode cX1_lay 62 = .ok (.goto (-18), 3) := by decide +kernel
theorem dX1_lay_65 : decode cX1_lay 65 = .ok (.return_, 1) := by decide +kernel
theorem dX2_init_0 : decode cX2_init 0 = .ok (.aload_n 0, 1) := by decide +kernel
theorem dX2_init_1 : decode cX2_init 1 = .ok (.invokespecial 3, 3) := by decide +kernel
theorem dX2_init_4 : decode cX2_init 4 = .ok (.aload_n 0, 1) := by decide +kernel
theorem dX2_init_5 : decode cX2_init 5 = .ok (.sipush 10007, 3) := by decide +kernel
theorem dX2_init_8 : decode cX2_init 8 = .ok (.newarray .int, 2) := by decide +kernel
theorem dX2_init_10 : decode cX2_init 10 = .ok (.putfield 9, 3) := by decide +kernel
theorem dX2_init_13 : decode cX2_init 13 = .ok (.aload_n 0, 1) := by decide +kernel
theorem dX2_init_14 : decode cX2_init 14 = .ok (.sipush 128, 3) := by decide +kernel
theorem dX2_init_17 : decode cX2_init 17 = .ok (.newarray .int, 2) := by decide +kernel
theorem dX2_init_19 : decode cX2_init 19 = .ok (.putfield 15, 3) := by decide +kernel
theorem dX2_init_22 : decode cX2_init 22 = .ok (.aload_n 0, 1) := by decide +kernel
theorem dX2_init_23 : decode cX2_init 23 = .ok (.iconst 1, 1) := by decide +kernel
theorem dX2_init_24 : decode cX2_init 24 = .ok (.putfield 18, 3) := by decide +kernel
theorem dX2_init_27 : decode cX2_init 27 = .ok (.aload_n 0, 1) := by decide +kernel
theorem dX2_init_28 : decode cX2_init 28 = .ok (.iconst (-1), 1) := by decide +kernel
theorem dX2_init_29 : decode cX2_init 29 = .ok (.putfield 22, 3) := by decide +kernel
theorem dX2_init_32 : decode cX2_init 32 = .ok (.return_, 1) := by decide +kernel
set_option maxRecDepth 20000 in
theorem ggX3_init_X2_init : GoodIn wsX3_init wsX2_init := goodIn_r _ [13, 14, 2, 3, 9, 15, 16, 17, 18, 22, 23, 24, 25, 26, 27] (by decide +kernel) (by decide +kernel)
set_option maxRecDepth 20000 in
theorem gX3_init_X2_init : GoodIn wsX3_init (wsX2_init) := ggX3_init_X2_init
theorem dX3_init_0 : decode cX3_init 0 = .ok (.aload_n 0, 1) := by decide +kernel
theorem dX3_init_1 : decode cX3_init 1 = .ok (.invokespecial 3, 3) := by decide +kernel
theorem dX3_init_4 : decode cX3_init 4 = .ok (.aload_n 0, 1) := by decide +kernel
theorem dX3_init_5 : decode cX3_init 5 = .ok (.aload_n 1, 1) := by decide +kernel
theorem dX3_init_6 : decode cX3_init 6 = .ok (.putfield 9, 3) := by decide +kernel
theorem dX3_init_9 : decode cX3_init 9 = .ok (.aload_n 0, 1) := by decide +kernel
theorem dX3_init_10 : decode cX3_init 10 = .ok (.new 15, 3) := by decide +kernel
theorem dX3_init_13 : decode cX3_init 13 = .ok (.dup, 1) := by decide +kernel
theorem dX3_init_14 : decode cX3_init 14 = .ok (.invokespecial 17, 3) := by decide +kernel
theorem dX3_init_17 : decode cX3_init 17 = .ok (.putfield 18, 3) := by decide +kernel
theorem dX3_init_20 : decode cX3_init 20 = .ok (.aload_n 0, 1) := by decide +kernel
theorem dX3_init_21 : decode cX3_init 21 = .ok (.iconst 4, 1) := by decide +kernel
theorem dX3_init_22 : decode cX3_init 22 = .ok (.newarray .int, 2) := by decide +kernel
theorem dX3_init_24 : decode cX3_init 24 = .ok (.putfield 22, 3) := by decide +kernel
theorem dX3_init_27 : decode cX3_init 27 = .ok (.return_, 1) := by decide +kernel
set_option maxRecDepth 20000 in
theorem ggX3_manyPoints_X3_manyAt : GoodIn wsX3_manyPoints wsX3_manyAt := goodIn_r _ [5, 6, 7, 8, 9, 10, 11, 12, 13, 14, 15, 16, 17, 18, 19, 20, 21, 22] (by decide +kernel) (by decide +kernel)
set_option maxRecDepth 20000 in
theorem gX3_manyPoints_X3_manyAt : GoodIn wsX3_manyPoints (wsV RX3 61 RX3 yX3_manyAt wsX3_manyAt) := goodIn_app (goodIn_of _ (by decide +kernel)) ggX3_manyPoints_X3_manyAt
theorem dX3_manyPoints_0 : decode cX3_manyPoints 0 = .ok (.iconst 1, 1) := by decide +kernel
theorem dX3_manyPoints_1 : decode cX3_manyPoints 1 = .ok (.istore 4, 2) := by decide +kernel
theorem dX3_manyPoints_3 : decode cX3_manyPoints 3 = .ok (.iconst 0, 1) := by decide +kernel
theorem dX3_manyPoints_4 : decode cX3_manyPoints 4 = .ok (.istore 5, 2) := by decide +kernel
theorem dX3_manyPoints_6 : decode cX3_manyPoints 6 = .ok (.iload 5, 2) := by decide +kernel
theorem dX3_manyPoints_8 : decode cX3_manyPoints 8 = .ok (.iload_n 1, 1) := by decide +kernel
theorem dX3_manyPoints_9 : decode cX3_manyPoints 9 = .ok (.if_icmp .ge 35, 3) := by decide +kernel
theorem dX3_manyPoints_12 : decode cX3_manyPoints 12 = .ok (.iload 4, 2) := by decide +kernel
theorem dX3_manyPoints_14 : decode cX3_manyPoints 14 = .ok (.aload_n 0, 1) := by decide +kernel
theorem dX3_manyPoints_15 : decode cX3_manyPoints 15 = .ok (.iload 5, 2) := by decide +kernel
theorem dX3_manyPoints_17 : decode cX3_manyPoints 17 = .ok (.iload 5, 2) := by decide +kernel
theorem dX3_manyPoints_19 : decode cX3_manyPoints 19 = .ok (.imul, 1) := by decide +kernel
theorem dX3_manyPoints_20 : decode cX3_manyPoints 20 = .ok (.iload_n 2, 1) := by decide +kernel
theorem dX3_manyPoints_21 : decode cX3_manyPoints 21 = .ok (.iadd, 1) := by decide +kernel
theorem dX3_manyPoints_22 : decode cX3_manyPoints 22 = .ok (.iload_n 1, 1) := by decide +kernel
theorem dX3_manyPoints_23 : decode cX3_manyPoints 23 = .ok (.irem, 1) := by decide +kernel
theorem dX3_manyPoints_24 : decode cX3_manyPoints 24 = .ok (.iload 5, 2) := by decide +kernel
theorem dX3_manyPoints_26 : decode cX3_manyPoints 26 = .ok (.imul, 1) := by decide +kernel
theorem dX3_manyPoints_27 : decode cX3_manyPoints 27 = .ok (.iload_n 3, 1) := by decide +kernel
theorem dX3_manyPoints_28 : decode cX3_manyPoints 28 = .ok (.iadd, 1) := by decide +kernel
theorem dX3_manyPoints_29 : decode cX3_manyPoints 29 = .ok (.iload_n 1, 1) := by decide +kernel
theorem dX3_manyPoints_30 : decode cX3_manyPoints 30 = .ok (.irem, 1) := by decide +kernel
theorem dX3_manyPoints_31 : decode cX3_manyPoints 31 = .ok (.iload_n 1, 1) := by decide +kernel
theorem dX3_manyPoints_32 : decode cX3_manyPoints 32 = .ok (.invokevirtual 61, 3) := by decide +kernel
theorem dX3_manyPoints_35 : decode cX3_manyPoints 35 = .ok (.iadd, 1) := by decide +kernel
theorem dX3_manyPoints_36 : decode cX3_manyPoints 36 = .ok (.istore 4, 2) := by decide +kernel
theorem dX3_manyPoints_38 : decode cX3_manyPoints 38 = .ok (.iinc 5 1, 3) := by decide +kernel
theorem dX3_manyPoints_41 : decode cX3_manyPoints 41 = .ok (.goto (-35), 3) := by decide +kernel
theorem dX3_manyPoints_44 : decode cX3_manyPoints 44 = .ok (.iload 4, 2) := by decide +kernel
theorem dX3_manyPoints_46 : decode cX3_manyPoints 46 = .ok (.ireturn, 1) := by decide +kernel
set_option maxRecDepth 20000 in
theorem ggX3_manyAt_X1_leastRoot : GoodIn wsX3_manyAt wsX1_leastRoot := goodIn_r _ [6, 7, 8, 9, 10, 11, 5, 12, 16, 17] (by decide +kernel) (by decide +kernel)
set_option maxRecDepth 20000 in
theorem gX3_manyAt_X1_leastRoot : GoodIn wsX3_manyAt (wsV RX3 64 RX1 yX1_leastRoot wsX1_leastRoot) := goodIn_app (goodIn_of _ (by decide +kernel)) ggX3_manyAt_X1_leastRoot
theorem dX3_manyAt_0 : decode cX3_manyAt 0 = .ok (.iload_n 1, 1) := by decide +kernel
theorem dX3_manyAt_1 : decode cX3_manyAt 1 = .ok (.ifCond .ne 5, 3) := by decide +kernel
theorem dX3_manyAt_4 : decode cX3_manyAt 4 = .ok (.iconst 1, 1) := by decide +kernel
theorem dX3_manyAt_5 : decode cX3_manyAt 5 = .ok (.ireturn, 1) := by decide +kernel
theorem dX3_manyAt_6 : decode cX3_manyAt 6 = .ok (.aload_n 0, 1) := by decide +kernel
theorem dX3_manyAt_7 : decode cX3_manyAt 7 = .ok (.getfield 9, 3) := by decide +kernel
theorem dX3_manyAt_10 : decode cX3_manyAt 10 = .ok (.iload_n 1, 1) := by decide +kernel
theorem dX3_manyAt_11 : decode cX3_manyAt 11 = .ok (.iload_n 2, 1) := by decide +kernel
theorem dX3_manyAt_12 : decode cX3_manyAt 12 = .ok (.invokevirtual 64, 3) := by decide +kernel
theorem dX3_manyAt_15 : decode cX3_manyAt 15 = .ok (.ifCond .le 7, 3) := by decide +kernel
theorem dX3_manyAt_18 : decode cX3_manyAt 18 = .ok (.iconst 2, 1) := by decide +kernel
theorem dX3_manyAt_19 : decode cX3_manyAt 19 = .ok (.goto 4, 3) := by decide +kernel
theorem dX3_manyAt_22 : decode cX3_manyAt 22 = .ok (.iconst 0, 1) := by decide +kernel
theorem dX3_manyAt_23 : decode cX3_manyAt 23 = .ok (.ireturn, 1) := by decide +kernel
set_option maxRecDepth 20000 in
theorem ggX3_pairsWith_X3_manyWithoutA : GoodIn wsX3_pairsWith wsX3_manyWithoutA := goodIn_r _ [5, 6, 7, 8, 4, 9, 10, 11, 12, 13, 14, 15, 16, 17, 18, 19, 20, 21, 22, 23, 24, 25, 30, 31, 32, 33, 34] (by decide +kernel) (by decide +kernel)
set_option maxRecDepth 20000 in
theorem gX3_pairsWith_X3_manyWithoutA : GoodIn wsX3_pairsWith (wsV RX3 138 RX3 yX3_manyWithoutA wsX3_manyWithoutA) := goodIn_app (goodIn_of _ (by decide +kernel)) ggX3_pairsWith_X3_manyWithoutA
set_option maxRecDepth 20000 in
theorem ggX3_pairsWith_X3_manyWithoutB : GoodIn wsX3_pairsWith wsX3_manyWithoutB := goodIn_r _ [29, 6, 7, 8, 4, 9, 10, 11, 12, 13, 14, 15, 16, 17, 18, 19, 20, 21, 22, 23, 24, 25, 30, 31, 32, 33, 34] (by decide +kernel) (by decide +kernel)
set_option maxRecDepth 20000 in
theorem gX3_pairsWith_X3_manyWithoutB : GoodIn wsX3_pairsWith (wsV RX3 141 RX3 yX3_manyWithoutB wsX3_manyWithoutB) := goodIn_app (goodIn_of _ (by decide +kernel)) ggX3_pairsWith_X3_manyWithoutB
set_option maxRecDepth 20000 in
theorem ggX3_pairsWith_X3_manyPoints : GoodIn wsX3_pairsWith wsX3_manyPoints := goodIn_r _ [9, 10, 11, 12, 4, 13, 14, 15, 16, 17, 18, 19, 20, 21, 22, 23, 24, 25, 30, 31, 32, 33, 34] (by decide +kernel) (by decide +kernel)
set_option maxRecDepth 20000 in
theorem gX3_pairsWith_X3_manyPoints : GoodIn wsX3_pairsWith (wsV RX3 41 RX3 yX3_manyPoints wsX3_manyPoints) := goodIn_app (goodIn_of _ (by decide +kernel)) ggX3_pairsWith_X3_manyPoints
theorem dX3_pairsWith_0 : decode cX3_pairsWith 0 = .ok (.aload_n 0, 1) := by decide +kernel
theorem dX3_pairsWith_1 : decode cX3_pairsWith 1 = .ok (.iload_n 1, 1) := by decide +kernel
theorem dX3_pairsWith_2 : decode cX3_pairsWith 2 = .ok (.iload_n 2, 1) := by decide +kernel
theorem dX3_pairsWith_3 : decode cX3_pairsWith 3 = .ok (.invokevirtual 138, 3) := by decide +kernel
theorem dX3_pairsWith_6 : decode cX3_pairsWith 6 = .ok (.aload_n 0, 1) := by decide +kernel
theorem dX3_pairsWith_7 : decode cX3_pairsWith 7 = .ok (.iload_n 1, 1) := by decide +kernel
theorem dX3_pairsWith_8 : decode cX3_pairsWith 8 = .ok (.iload_n 2, 1) := by decide +kernel
theorem dX3_pairsWith_9 : decode cX3_pairsWith 9 = .ok (.invokevirtual 141, 3) := by decide +kernel
theorem dX3_pairsWith_12 : decode cX3_pairsWith 12 = .ok (.iadd, 1) := by decide +kernel
theorem dX3_pairsWith_13 : decode cX3_pairsWith 13 = .ok (.istore_n 3, 1) := by decide +kernel
theorem dX3_pairsWith_14 : decode cX3_pairsWith 14 = .ok (.iconst 1, 1) := by decide +kernel
theorem dX3_pairsWith_15 : decode cX3_pairsWith 15 = .ok (.istore 4, 2) := by decide +kernel
theorem dX3_pairsWith_17 : decode cX3_pairsWith 17 = .ok (.iload 4, 2) := by decide +kernel
theorem dX3_pairsWith_19 : decode cX3_pairsWith 19 = .ok (.iload_n 1, 1) := by decide +kernel
theorem dX3_pairsWith_20 : decode cX3_pairsWith 20 = .ok (.iconst 1, 1) := by decide +kernel
theorem dX3_pairsWith_21 : decode cX3_pairsWith 21 = .ok (.isub, 1) := by decide +kernel
theorem dX3_pairsWith_22 : decode cX3_pairsWith 22 = .ok (.if_icmp .ge 70, 3) := by decide +kernel
theorem dX3_pairsWith_25 : decode cX3_pairsWith 25 = .ok (.aload_n 0, 1) := by decide +kernel
theorem dX3_pairsWith_26 : decode cX3_pairsWith 26 = .ok (.iload_n 1, 1) := by decide +kernel
theorem dX3_pairsWith_27 : decode cX3_pairsWith 27 = .ok (.iconst 3, 1) := by decide +kernel
theorem dX3_pairsWith_28 : decode cX3_pairsWith 28 = .ok (.iload 4, 2) := by decide +kernel
theorem dX3_pairsWith_30 : decode cX3_pairsWith 30 = .ok (.imul, 1) := by decide +kernel
theorem dX3_pairsWith_31 : decode cX3_pairsWith 31 = .ok (.iload_n 1, 1) := by decide +kernel
theorem dX3_pairsWith_32 : decode cX3_pairsWith 32 = .ok (.irem, 1) := by decide +kernel
theorem dX3_pairsWith_33 : decode cX3_pairsWith 33 = .ok (.iconst 2, 1) := by decide +kernel
theorem dX3_pairsWith_34 : decode cX3_pairsWith 34 = .ok (.iload 4, 2) := by decide +kernel
theorem dX3_pairsWith_36 : decode cX3_pairsWith 36 = .ok (.imul, 1) := by decide +kernel
theorem dX3_pairsWith_37 : decode cX3_pairsWith 37 = .ok (.iload_n 1, 1) := by decide +kernel
theorem dX3_pairsWith_38 : decode cX3_pairsWith 38 = .ok (.irem, 1) := by decide +kernel
theorem dX3_pairsWith_39 : decode cX3_pairsWith 39 = .ok (.invokevirtual 41, 3) := by decide +kernel
theorem dX3_pairsWith_42 : decode cX3_pairsWith 42 = .ok (.istore 5, 2) := by decide +kernel
theorem dX3_pairsWith_44 : decode cX3_pairsWith 44 = .ok (.iload_n 3, 1) := by decide +kernel
theorem dX3_pairsWith_45 : decode cX3_pairsWith 45 = .ok (.iload 5, 2) := by decide +kernel
theorem dX3_pairsWith_47 : decode cX3_pairsWith 47 = .ok (.iload_n 2, 1) := by decide +kernel
theorem dX3_pairsWith_48 : decode cX3_pairsWith 48 = .ok (.if_icmp .ne 11, 3) := by decide +kernel
theorem dX3_pairsWith_51 : decode cX3_pairsWith 51 = .ok (.iload_n 1, 1) := by decide +kernel
theorem dX3_pairsWith_52 : decode cX3_pairsWith 52 = .ok (.iconst 1, 1) := by decide +kernel
theorem dX3_pairsWith_53 : decode cX3_pairsWith 53 = .ok (.isub, 1) := by decide +kernel
theorem dX3_pairsWith_54 : decode cX3_pairsWith 54 = .ok (.iconst 2, 1) := by decide +kernel
theorem dX3_pairsWith_55 : decode cX3_pairsWith 55 = .ok (.idiv, 1) := by decide +kernel
theorem dX3_pairsWith_56 : decode cX3_pairsWith 56 = .ok (.goto 4, 3) := by decide +kernel
theorem dX3_pairsWith_59 : decode cX3_pairsWith 59 = .ok (.iconst 0, 1) := by decide +kernel
theorem dX3_pairsWith_60 : decode cX3_pairsWith 60 = .ok (.iadd, 1) := by decide +kernel
theorem dX3_pairsWith_61 : decode cX3_pairsWith 61 = .ok (.istore_n 3, 1) := by decide +kernel
theorem dX3_pairsWith_62 : decode cX3_pairsWith 62 = .ok (.iload_n 3, 1) := by decide +kernel
theorem dX3_pairsWith_63 : decode cX3_pairsWith 63 = .ok (.iconst 2, 1) := by decide +kernel
theorem dX3_pairsWith_64 : decode cX3_pairsWith 64 = .ok (.iload_n 1, 1) := by decide +kernel
theorem dX3_pairsWith_65 : decode cX3_pairsWith 65 = .ok (.imul, 1) := by decide +kernel
theorem dX3_pairsWith_66 : decode cX3_pairsWith 66 = .ok (.iconst 2, 1) := by decide +kernel
theorem dX3_pairsWith_67 : decode cX3_pairsWith 67 = .ok (.iadd, 1) := by decide +kernel
theorem dX3_pairsWith_68 : decode cX3_pairsWith 68 = .ok (.iload 5, 2) := by decide +kernel
theorem dX3_pairsWith_70 : decode cX3_pairsWith 70 = .ok (.isub, 1) := by decide +kernel
theorem dX3_pairsWith_71 : decode cX3_pairsWith 71 = .ok (.iload_n 2, 1) := by decide +kernel
theorem dX3_pairsWith_72 : decode cX3_pairsWith 72 = .ok (.if_icmp .ne 11, 3) := by decide +kernel
theorem dX3_pairsWith_75 : decode cX3_pairsWith 75 = .ok (.iload_n 1, 1) := by decide +kernel
theorem dX3_pairsWith_76 : decode cX3_pairsWith 76 = .ok (.iconst 1, 1) := by decide +kernel
theorem dX3_pairsWith_77 : decode cX3_pairsWith 77 = .ok (.isub, 1) := by decide +kernel
theorem dX3_pairsWith_78 : decode cX3_pairsWith 78 = .ok (.iconst 2, 1) := by decide +kernel
theorem dX3_pairsWith_79 : decode cX3_pairsWith 79 = .ok (.idiv, 1) := by decide +kernel
theorem dX3_pairsWith_80 : decode cX3_pairsWith 80 = .ok (.goto 4, 3) := by decide +kernel
theorem dX3_pairsWith_83 : decode cX3_pairsWith 83 = .ok (.iconst 0, 1) := by decide +kernel
theorem dX3_pairsWith_84 : decode cX3_pairsWith 84 = .ok (.iadd, 1) := by decide +kernel
theorem dX3_pairsWith_85 : decode cX3_pairsWith 85 = .ok (.istore_n 3, 1) := by decide +kernel
theorem dX3_pairsWith_86 : decode cX3_pairsWith 86 = .ok (.iinc 4 1, 3) := by decide +kernel
theorem dX3_pairsWith_89 : decode cX3_pairsWith 89 = .ok (.goto (-72), 3) := by decide +kernel
theorem dX3_pairsWith_92 : decode cX3_pairsWith 92 = .ok (.iload_n 3, 1) := by decide +kernel
theorem dX3_pairsWith_93 : decode cX3_pairsWith 93 = .ok (.ireturn, 1) := by decide +kernel
set_option maxRecDepth 20000 in
theorem ggX3_kindsWith_X3_manyWithoutA : GoodIn wsX3_kindsWith wsX3_manyWithoutA := goodIn_r _ [5, 6, 7, 8, 4, 9, 10, 11, 12, 13, 14, 15, 16, 17, 18, 19, 20, 21, 22, 23, 24, 25, 30, 31, 32, 33, 34] (by decide +kernel) (by decide +kernel)
set_option maxRecDepth 20000 in
theorem gX3_kindsWith_X3_manyWithoutA : GoodIn wsX3_kindsWith (wsV RX3 138 RX3 yX3_manyWithoutA wsX3_manyWithoutA) := goodIn_app (goodIn_of _ (by decide +kernel)) ggX3_kindsWith_X3_manyWithoutA
set_option maxRecDepth 20000 in
theorem ggX3_kindsWith_X3_manyWithoutB : GoodIn wsX3_kindsWith wsX3_manyWithoutB := goodIn_r _ [29, 6, 7, 8, 4, 9, 10, 11, 12, 13, 14, 15, 16, 17, 18, 19, 20, 21, 22, 23, 24, 25, 30, 31, 32, 33, 34] (by decide +kernel) (by decide +kernel)
set_option maxRecDepth 20000 in
theorem gX3_kindsWith_X3_manyWithoutB : GoodIn wsX3_kindsWith (wsV RX3 141 RX3 yX3_manyWithoutB wsX3_manyWithoutB) := goodIn_app (goodIn_of _ (by decide +kernel)) ggX3_kindsWith_X3_manyWithoutB
set_option maxRecDepth 20000 in
theorem ggX3_kindsWith_X3_manyPoints : GoodIn wsX3_kindsWith wsX3_manyPoints := goodIn_r _ [9, 10, 11, 12, 4, 13, 14, 15, 16, 17, 18, 19, 20, 21, 22, 23, 24, 25, 30, 31, 32, 33, 34] (by decide +kernel) (by decide +kernel)
set_option maxRecDepth 20000 in
theorem gX3_kindsWith_X3_manyPoints : GoodIn wsX3_kindsWith (wsV RX3 41 RX3 yX3_manyPoints wsX3_manyPoints) := goodIn_app (goodIn_of _ (by decide +kernel)) ggX3_kindsWith_X3_manyPoints
theorem dX3_kindsWith_0 : decode cX3_kindsWith 0 = .ok (.aload_n 0, 1) := by decide +kernel
theorem dX3_kindsWith_1 : decode cX3_kindsWith 1 = .ok (.iload_n 1, 1) := by decide +kernel
theorem dX3_kindsWith_2 : decode cX3_kindsWith 2 = .ok (.iload_n 2, 1) := by decide +kernel
theorem dX3_kindsWith_3 : decode cX3_kindsWith 3 = .ok (.invokevirtual 138, 3) := by decide +kernel
theorem dX3_kindsWith_6 : decode cX3_kindsWith 6 = .ok (.ifCond .le 7, 3) := by decide +kernel
theorem dX3_kindsWith_9 : decode cX3_kindsWith 9 = .ok (.iconst 1, 1) := by decide +kernel
theorem dX3_kindsWith_10 : decode cX3_kindsWith 10 = .ok (.goto 4, 3) := by decide +kernel
theorem dX3_kindsWith_13 : decode cX3_kindsWith 13 = .ok (.iconst 0, 1) := by decide +kernel
theorem dX3_kindsWith_14 : decode cX3_kindsWith 14 = .ok (.istore_n 3, 1) := by decide +kernel
theorem dX3_kindsWith_15 : decode cX3_kindsWith 15 = .ok (.iload_n 3, 1) := by decide +kernel
theorem dX3_kindsWith_16 : decode cX3_kindsWith 16 = .ok (.aload_n 0, 1) := by decide +kernel
theorem dX3_kindsWith_17 : decode cX3_kindsWith 17 = .ok (.iload_n 1, 1) := by decide +kernel
theorem dX3_kindsWith_18 : decode cX3_kindsWith 18 = .ok (.iload_n 2, 1) := by decide +kernel
theorem dX3_kindsWith_19 : decode cX3_kindsWith 19 = .ok (.invokevirtual 141, 3) := by decide +kernel
theorem dX3_kindsWith_22 : decode cX3_kindsWith 22 = .ok (.ifCond .le 7, 3) := by decide +kernel
theorem dX3_kindsWith_25 : decode cX3_kindsWith 25 = .ok (.iconst 1, 1) := by decide +kernel
theorem dX3_kindsWith_26 : decode cX3_kindsWith 26 = .ok (.goto 4, 3) := by decide +kernel
theorem dX3_kindsWith_29 : decode cX3_kindsWith 29 = .ok (.iconst 0, 1) := by decide +kernel
theorem dX3_kindsWith_30 : decode cX3_kindsWith 30 = .ok (.iadd, 1) := by decide +kernel
theorem dX3_kindsWith_31 : decode cX3_kindsWith 31 = .ok (.istore_n 3, 1) := by decide +kernel
theorem dX3_kindsWith_32 : decode cX3_kindsWith 32 = .ok (.iconst 1, 1) := by decide +kernel
theorem dX3_kindsWith_33 : decode cX3_kindsWith 33 = .ok (.istore 4, 2) := by decide +kernel
theorem dX3_kindsWith_35 : decode cX3_kindsWith 35 = .ok (.iload 4, 2) := by decide +kernel
theorem dX3_kindsWith_37 : decode cX3_kindsWith 37 = .ok (.iload_n 1, 1) := by decide +kernel
theorem dX3_kindsWith_38 : decode cX3_kindsWith 38 = .ok (.iconst 1, 1) := by decide +kernel
theorem dX3_kindsWith_39 : decode cX3_kindsWith 39 = .ok (.isub, 1) := by decide +kernel
theorem dX3_kindsWith_40 : decode cX3_kindsWith 40 = .ok (.if_icmp .ge 54, 3) := by decide +kernel
theorem dX3_kindsWith_43 : decode cX3_kindsWith 43 = .ok (.aload_n 0, 1) := by decide +kernel
theorem dX3_kindsWith_44 : decode cX3_kindsWith 44 = .ok (.iload_n 1, 1) := by decide +kernel
theorem dX3_kindsWith_45 : decode cX3_kindsWith 45 = .ok (.iconst 3, 1) := by decide +kernel
theorem dX3_kindsWith_46 : decode cX3_kindsWith 46 = .ok (.iload 4, 2) := by decide +kernel
theorem dX3_kindsWith_48 : decode cX3_kindsWith 48 = .ok (.imul, 1) := by decide +kernel
theorem dX3_kindsWith_49 : decode cX3_kindsWith 49 = .ok (.iload_n 1, 1) := by decide +kernel
theorem dX3_kindsWith_50 : decode cX3_kindsWith 50 = .ok (.irem, 1) := by decide +kernel
theorem dX3_kindsWith_51 : decode cX3_kindsWith 51 = .ok (.iconst 2, 1) := by decide +kernel
theorem dX3_kindsWith_52 : decode cX3_kindsWith 52 = .ok (.iload 4, 2) := by decide +kernel
theorem dX3_kindsWith_54 : decode cX3_kindsWith 54 = .ok (.imul, 1) := by decide +kernel
theorem dX3_kindsWith_55 : decode cX3_kindsWith 55 = .ok (.iload_n 1, 1) := by decide +kernel
theorem dX3_kindsWith_56 : decode cX3_kindsWith 56 = .ok (.irem, 1) := by decide +kernel
theorem dX3_kindsWith_57 : decode cX3_kindsWith 57 = .ok (.invokevirtual 41, 3) := by decide +kernel
theorem dX3_kindsWith_60 : decode cX3_kindsWith 60 = .ok (.istore 5, 2) := by decide +kernel
theorem dX3_kindsWith_62 : decode cX3_kindsWith 62 = .ok (.iload_n 3, 1) := by decide +kernel
theorem dX3_kindsWith_63 : decode cX3_kindsWith 63 = .ok (.iload 5, 2) := by decide +kernel
theorem dX3_kindsWith_65 : decode cX3_kindsWith 65 = .ok (.iload_n 2, 1) := by decide +kernel
theorem dX3_kindsWith_66 : decode cX3_kindsWith 66 = .ok (.if_icmp .eq 15, 3) := by decide +kernel
theorem dX3_kindsWith_69 : decode cX3_kindsWith 69 = .ok (.iconst 2, 1) := by decide +kernel
theorem dX3_kindsWith_70 : decode cX3_kindsWith 70 = .ok (.iload_n 1, 1) := by decide +kernel
theorem dX3_kindsWith_71 : decode cX3_kindsWith 71 = .ok (.imul, 1) := by decide +kernel
theorem dX3_kindsWith_72 : decode cX3_kindsWith 72 = .ok (.iconst 2, 1) := by decide +kernel
theorem dX3_kindsWith_73 : decode cX3_kindsWith 73 = .ok (.iadd, 1) := by decide +kernel
theorem dX3_kindsWith_74 : decode cX3_kindsWith 74 = .ok (.iload 5, 2) := by decide +kernel
theorem dX3_kindsWith_76 : decode cX3_kindsWith 76 = .ok (.isub, 1) := by decide +kernel
theorem dX3_kindsWith_77 : decode cX3_kindsWith 77 = .ok (.iload_n 2, 1) := by decide +kernel
theorem dX3_kindsWith_78 : decode cX3_kindsWith 78 = .ok (.if_icmp .ne 7, 3) := by decide +kernel
theorem dX3_kindsWith_81 : decode cX3_kindsWith 81 = .ok (.iconst 1, 1) := by decide +kernel
theorem dX3_kindsWith_82 : decode cX3_kindsWith 82 = .ok (.goto 4, 3) := by decide +kernel
theorem dX3_kindsWith_85 : decode cX3_kindsWith 85 = .ok (.iconst 0, 1) := by decide +kernel
theorem dX3_kindsWith_86 : decode cX3_kindsWith 86 = .ok (.iadd, 1) := by decide +kernel
theorem dX3_kindsWith_87 : decode cX3_kindsWith 87 = .ok (.istore_n 3, 1) := by decide +kernel
theorem dX3_kindsWith_88 : decode cX3_kindsWith 88 = .ok (.iinc 4 1, 3) := by decide +kernel
theorem dX3_kindsWith_91 : decode cX3_kindsWith 91 = .ok (.goto (-56), 3) := by decide +kernel
theorem dX3_kindsWith_94 : decode cX3_kindsWith 94 = .ok (.iload_n 3, 1) := by decide +kernel
theorem dX3_kindsWith_95 : decode cX3_kindsWith 95 = .ok (.ireturn, 1) := by decide +kernel
set_option maxRecDepth 20000 in
theorem ggX3_manyWithoutA_X3_manyPoints : GoodIn wsX3_manyWithoutA wsX3_manyPoints := goodIn_r _ [5, 6, 7, 8, 4, 9, 10, 11, 12, 13, 14, 15, 16, 17, 18, 19, 20, 21, 22, 23, 24, 25, 26] (by decide +kernel) (by decide +kernel)
set_option maxRecDepth 20000 in
theorem gX3_manyWithoutA_X3_manyPoints : GoodIn wsX3_manyWithoutA (wsV RX3 41 RX3 yX3_manyPoints wsX3_manyPoints) := goodIn_app (goodIn_of _ (by decide +kernel)) ggX3_manyWithoutA_X3_manyPoints
theorem dX3_manyWithoutA_0 : decode cX3_manyWithoutA 0 = .ok (.iconst 0, 1) := by decide +kernel
theorem dX3_manyWithoutA_1 : decode cX3_manyWithoutA 1 = .ok (.istore_n 3, 1) := by decide +kernel
theorem dX3_manyWithoutA_2 : decode cX3_manyWithoutA 2 = .ok (.iconst 1, 1) := by decide +kernel
theorem dX3_manyWithoutA_3 : decode cX3_manyWithoutA 3 = .ok (.istore 4, 2) := by decide +kernel
theorem dX3_manyWithoutA_5 : decode cX3_manyWithoutA 5 = .ok (.iload 4, 2) := by decide +kernel
theorem dX3_manyWithoutA_7 : decode cX3_manyWithoutA 7 = .ok (.iload_n 1, 1) := by decide +kernel
theorem dX3_manyWithoutA_8 : decode cX3_manyWithoutA 8 = .ok (.if_icmp .ge 29, 3) := by decide +kernel
theorem dX3_manyWithoutA_11 : decode cX3_manyWithoutA 11 = .ok (.iload_n 3, 1) := by decide +kernel
theorem dX3_manyWithoutA_12 : decode cX3_manyWithoutA 12 = .ok (.aload_n 0, 1) := by decide +kernel
theorem dX3_manyWithoutA_13 : decode cX3_manyWithoutA 13 = .ok (.iload_n 1, 1) := by decide +kernel
theorem dX3_manyWithoutA_14 : decode cX3_manyWithoutA 14 = .ok (.iconst 0, 1) := by decide +kernel
theorem dX3_manyWithoutA_15 : decode cX3_manyWithoutA 15 = .ok (.iload 4, 2) := by decide +kernel
theorem dX3_manyWithoutA_17 : decode cX3_manyWithoutA 17 = .ok (.invokevirtual 41, 3) := by decide +kernel
theorem dX3_manyWithoutA_20 : decode cX3_manyWithoutA 20 = .ok (.iload_n 2, 1) := by decide +kernel
theorem dX3_manyWithoutA_21 : decode cX3_manyWithoutA 21 = .ok (.if_icmp .ne 7, 3) := by decide +kernel
theorem dX3_manyWithoutA_24 : decode cX3_manyWithoutA 24 = .ok (.iconst 1, 1) := by decide +kernel
theorem dX3_manyWithoutA_25 : decode cX3_manyWithoutA 25 = .ok (.goto 4, 3) := by decide +kernel
theorem dX3_manyWithoutA_28 : decode cX3_manyWithoutA 28 = .ok (.iconst 0, 1) := by decide +kernel
theorem dX3_manyWithoutA_29 : decode cX3_manyWithoutA 29 = .ok (.iadd, 1) := by decide +kernel
theorem dX3_manyWithoutA_30 : decode cX3_manyWithoutA 30 = .ok (.istore_n 3, 1) := by decide +kernel
theorem dX3_manyWithoutA_31 : decode cX3_manyWithoutA 31 = .ok (.iinc 4 1, 3) := by decide +kernel
theorem dX3_manyWithoutA_34 : decode cX3_manyWithoutA 34 = .ok (.goto (-29), 3) := by decide +kernel
theorem dX3_manyWithoutA_37 : decode cX3_manyWithoutA 37 = .ok (.iload_n 3, 1) := by decide +kernel
theorem dX3_manyWithoutA_38 : decode cX3_manyWithoutA 38 = .ok (.ireturn, 1) := by decide +kernel
set_option maxRecDepth 20000 in
theorem ggX3_manyWithoutB_X3_manyPoints : GoodIn wsX3_manyWithoutB wsX3_manyPoints := goodIn_r _ [5, 6, 7, 8, 4, 9, 10, 11, 12, 13, 14, 15, 16, 17, 18, 19, 20, 21, 22, 23, 24, 25, 26] (by decide +kernel) (by decide +kernel)
set_option maxRecDepth 20000 in
theorem gX3_manyWithoutB_X3_manyPoints : GoodIn wsX3_manyWithoutB (wsV RX3 41 RX3 yX3_manyPoints wsX3_manyPoints) := goodIn_app (goodIn_of _ (by decide +kernel)) ggX3_manyWithoutB_X3_manyPoints
theorem dX3_manyWithoutB_0 : decode cX3_manyWithoutB 0 = .ok (.iconst 0, 1) := by decide +kernel
theorem dX3_manyWithoutB_1 : decode cX3_manyWithoutB 1 = .ok (.istore_n 3, 1) := by decide +kernel
theorem dX3_manyWithoutB_2 : decode cX3_manyWithoutB 2 = .ok (.iconst 1, 1) := by decide +kernel
theorem dX3_manyWithoutB_3 : decode cX3_manyWithoutB 3 = .ok (.istore 4, 2) := by decide +kernel
theorem dX3_manyWithoutB_5 : decode cX3_manyWithoutB 5 = .ok (.iload 4, 2) := by decide +kernel
theorem dX3_manyWithoutB_7 : decode cX3_manyWithoutB 7 = .ok (.iload_n 1, 1) := by decide +kernel
theorem dX3_manyWithoutB_8 : decode cX3_manyWithoutB 8 = .ok (.if_icmp .ge 29, 3) := by decide +kernel
theorem dX3_manyWithoutB_11 : decode cX3_manyWithoutB 11 = .ok (.iload_n 3, 1) := by decide +kernel
theorem dX3_manyWithoutB_12 : decode cX3_manyWithoutB 12 = .ok (.aload_n 0, 1) := by decide +kernel
theorem dX3_manyWithoutB_13 : decode cX3_manyWithoutB 13 = .ok (.iload_n 1, 1) := by decide +kernel
theorem dX3_manyWithoutB_14 : decode cX3_manyWithoutB 14 = .ok (.iload 4, 2) := by decide +kernel
theorem dX3_manyWithoutB_16 : decode cX3_manyWithoutB 16 = .ok (.iconst 0, 1) := by decide +kernel
theorem dX3_manyWithoutB_17 : decode cX3_manyWithoutB 17 = .ok (.invokevirtual 41, 3) := by decide +kernel
theorem dX3_manyWithoutB_20 : decode cX3_manyWithoutB 20 = .ok (.iload_n 2, 1) := by decide +kernel
theorem dX3_manyWithoutB_21 : decode cX3_manyWithoutB 21 = .ok (.if_icmp .ne 7, 3) := by decide +kernel
theorem dX3_manyWithoutB_24 : decode cX3_manyWithoutB 24 = .ok (.iconst 1, 1) := by decide +kernel
theorem dX3_manyWithoutB_25 : decode cX3_manyWithoutB 25 = .ok (.goto 4, 3) := by decide +kernel
theorem dX3_manyWithoutB_28 : decode cX3_manyWithoutB 28 = .ok (.iconst 0, 1) := by decide +kernel
theorem dX3_manyWithoutB_29 : decode cX3_manyWithoutB 29 = .ok (.iadd, 1) := by decide +kernel
theorem dX3_manyWithoutB_30 : decode cX3_manyWithoutB 30 = .ok (.istore_n 3, 1) := by decide +kernel
theorem dX3_manyWithoutB_31 : decode cX3_manyWithoutB 31 = .ok (.iinc 4 1, 3) := by decide +kernel
theorem dX3_manyWithoutB_34 : decode cX3_manyWithoutB 34 = .ok (.goto (-29), 3) := by decide +kernel
theorem dX3_manyWithoutB_37 : decode cX3_manyWithoutB 37 = .ok (.iload_n 3, 1) := by decide +kernel
theorem dX3_manyWithoutB_38 : decode cX3_manyWithoutB 38 = .ok (.ireturn, 1) := by decide +kernel
theorem dX4_isBelow_0 : decode cX4_isBelow 0 = .ok (.iload_n 0, 1) := by decide +kernel
theorem dX4_isBelow_1 : decode cX4_isBelow 1 = .ok (.ifCond .lt 12, 3) := by decide +kernel
theorem dX4_isBelow_4 : decode cX4_isBelow 4 = .ok (.iload_n 0, 1) := by decide +kernel
theorem dX4_isBelow_5 : decode cX4_isBelow 5 = .ok (.iload_n 1, 1) := by decide +kernel
theorem dX4_isBelow_6 : decode cX4_isBelow 6 = .ok (.if_icmp .ge 7, 3) := by decide +kernel
theorem dX4_isBelow_9 : decode cX4_isBelow 9 = .ok (.iconst 1, 1) := by decide +kernel
theorem dX4_isBelow_10 : decode cX4_isBelow 10 = .ok (.goto 4, 3) := by decide +kernel
theorem dX4_isBelow_13 : decode cX4_isBelow 13 = .ok (.iconst 0, 1) := by decide +kernel
theorem dX4_isBelow_14 : decode cX4_isBelow 14 = .ok (.ireturn, 1) := by decide +kernel
set_option maxRecDepth 20000 in
theorem ggX4_isFieldPrime_X4_isPrime : GoodIn wsX4_isFieldPrime wsX4_isPrime := goodIn_r _ [4, 5, 6, 3, 7] (by decide +kernel) (by decide +kernel)
set_option maxRecDepth 20000 in
theorem gX4_isFieldPrime_X4_isPrime : GoodIn wsX4_isFieldPrime (va_wsS RX4 9 yX4_isPrime wsX4_isPrime) := goodIn_app (goodIn_of _ (by decide +kernel)) ggX4_isFieldPrime_X4_isPrime
theorem dX4_isFieldPrime_0 : decode cX4_isFieldPrime 0 = .ok (.iload_n 0, 1) := by decide +kernel
theorem dX4_isFieldPrime_1 : decode cX4_isFieldPrime 1 = .ok (.iconst 5, 1) := by decide +kernel
theorem dX4_isFieldPrime_2 : decode cX4_isFieldPrime 2 = .ok (.if_icmp .lt 21, 3) := by decide +kernel
theorem dX4_isFieldPrime_5 : decode cX4_isFieldPrime 5 = .ok (.iload_n 0, 1) := by decide +kernel
theorem dX4_isFieldPrime_6 : decode cX4_isFieldPrime 6 = .ok (.sipush 10007, 3) := by decide +kernel
theorem dX4_isFieldPrime_9 : decode cX4_isFieldPrime 9 = .ok (.if_icmp .gt 14, 3) := by decide +kernel
theorem dX4_isFieldPrime_12 : decode cX4_isFieldPrime 12 = .ok (.iload_n 0, 1) := by decide +kernel
theorem dX4_isFieldPrime_13 : decode cX4_isFieldPrime 13 = .ok (.invokestatic 9, 3) := by decide +kernel
theorem dX4_isFieldPrime_16 : decode cX4_isFieldPrime 16 = .ok (.ifCond .eq 7, 3) := by decide +kernel
theorem dX4_isFieldPrime_19 : decode cX4_isFieldPrime 19 = .ok (.iconst 1, 1) := by decide +kernel
theorem dX4_isFieldPrime_20 : decode cX4_isFieldPrime 20 = .ok (.goto 4, 3) := by decide +kernel
theorem dX4_isFieldPrime_23 : decode cX4_isFieldPrime 23 = .ok (.iconst 0, 1) := by decide +kernel
theorem dX4_isFieldPrime_24 : decode cX4_isFieldPrime 24 = .ok (.ireturn, 1) := by decide +kernel
set_option maxRecDepth 20000 in
theorem ggX4_isPrime_X4_leastFactor : GoodIn wsX4_isPrime wsX4_leastFactor := goodIn_r _ [4] (by decide +kernel) (by decide +kernel)
set_option maxRecDepth 20000 in
theorem gX4_isPrime_X4_leastFactor : GoodIn wsX4_isPrime (va_wsS RX4 15 yX4_leastFactor wsX4_leastFactor) := goodIn_app (goodIn_of _ (by decide +kernel)) ggX4_isPrime_X4_leastFactor
theorem dX4_isPrime_0 : decode cX4_isPrime 0 = .ok (.iload_n 0, 1) := by decide +kernel
theorem dX4_isPrime_1 : decode cX4_isPrime 1 = .ok (.iconst 2, 1) := by decide +kernel
theorem dX4_isPrime_2 : decode cX4_isPrime 2 = .ok (.if_icmp .lt 15, 3) := by decide +kernel
theorem dX4_isPrime_5 : decode cX4_isPrime 5 = .ok (.iload_n 0, 1) := by decide +kernel
theorem dX4_isPrime_6 : decode cX4_isPrime 6 = .ok (.invokestatic 15, 3) := by decide +kernel
theorem dX4_isPrime_9 : decode cX4_isPrime 9 = .ok (.iload_n 0, 1) := by decide +kernel
theorem dX4_isPrime_10 : decode cX4_isPrime 10 = .ok (.if_icmp .ne 7, 3) := by decide +kernel
theorem dX4_isPrime_13 : decode cX4_isPrime 13 = .ok (.iconst 1, 1) := by decide +kernel
theorem dX4_isPrime_14 : decode cX4_isPrime 14 = .ok (.goto 4, 3) := by decide +kernel
theorem dX4_isPrime_17 : decode cX4_isPrime 17 = .ok (.iconst 0, 1) := by decide +kernel
theorem dX4_isPrime_18 : decode cX4_isPrime 18 = .ok (.ireturn, 1) := by decide +kernel
theorem dX4_leastFactor_0 : decode cX4_leastFactor 0 = .ok (.iconst 2, 1) := by decide +kernel
theorem dX4_leastFactor_1 : decode cX4_leastFactor 1 = .ok (.istore_n 1, 1) := by decide +kernel
theorem dX4_leastFactor_2 : decode cX4_leastFactor 2 = .ok (.iload_n 1, 1) := by decide +kernel
theorem dX4_leastFactor_3 : decode cX4_leastFactor 3 = .ok (.iload_n 0, 1) := by decide +kernel
theorem dX4_leastFactor_4 : decode cX4_leastFactor 4 = .ok (.iload_n 1, 1) := by decide +kernel
theorem dX4_leastFactor_5 : decode cX4_leastFactor 5 = .ok (.idiv, 1) := by decide +kernel
theorem dX4_leastFactor_6 : decode cX4_leastFactor 6 = .ok (.if_icmp .gt 17, 3) := by decide +kernel
theorem dX4_leastFactor_9 : decode cX4_leastFactor 9 = .ok (.iload_n 0, 1) := by decide +kernel
theorem dX4_leastFactor_10 : decode cX4_leastFactor 10 = .ok (.iload_n 1, 1) := by decide +kernel
theorem dX4_leastFactor_11 : decode cX4_leastFactor 11 = .ok (.irem, 1) := by decide +kernel
theorem dX4_leastFactor_12 : decode cX4_leastFactor 12 = .ok (.ifCond .ne 5, 3) := by decide +kernel
theorem dX4_leastFactor_15 : decode cX4_leastFactor 15 = .ok (.iload_n 1, 1) := by decide +kernel
theorem dX4_leastFactor_16 : decode cX4_leastFactor 16 = .ok (.ireturn, 1) := by decide +kernel
theorem dX4_leastFactor_17 : decode cX4_leastFactor 17 = .ok (.iinc 1 1, 3) := by decide +kernel
theorem dX4_leastFactor_20 : decode cX4_leastFactor 20 = .ok (.goto (-18), 3) := by decide +kernel
theorem dX4_leastFactor_23 : decode cX4_leastFactor 23 = .ok (.iload_n 0, 1) := by decide +kernel
theorem dX4_leastFactor_24 : decode cX4_leastFactor 24 = .ok (.ireturn, 1) := by decide +kernel
theorem dX4_cubicMark_0 : decode cX4_cubicMark 0 = .ok (.iconst 4, 1) := by decide +kernel
theorem dX4_cubicMark_1 : decode cX4_cubicMark 1 = .ok (.iload_n 0, 1) := by decide +kernel
theorem dX4_cubicMark_2 : decode cX4_cubicMark 2 = .ok (.iload_n 0, 1) := by decide +kernel
theorem dX4_cubicMark_3 : decode cX4_cubicMark 3 = .ok (.imul, 1) := by decide +kernel
theorem dX4_cubicMark_4 : decode cX4_cubicMark 4 = .ok (.iload_n 2, 1) := by decide +kernel
theorem dX4_cubicMark_5 : decode cX4_cubicMark 5 = .ok (.irem, 1) := by decide +kernel
theorem dX4_cubicMark_6 : decode cX4_cubicMark 6 = .ok (.imul, 1) := by decide +kernel
theorem dX4_cubicMark_7 : decode cX4_cubicMark 7 = .ok (.iload_n 0, 1) := by decide +kernel
theorem dX4_cubicMark_8 : decode cX4_cubicMark 8 = .ok (.imul, 1) := by decide +kernel
theorem dX4_cubicMark_9 : decode cX4_cubicMark 9 = .ok (.iload_n 2, 1) := by decide +kernel
theorem dX4_cubicMark_10 : decode cX4_cubicMark 10 = .ok (.irem, 1) := by decide +kernel
theorem dX4_cubicMark_11 : decode cX4_cubicMark 11 = .ok (.bipush 27, 2) := by decide +kernel
theorem dX4_cubicMark_13 : decode cX4_cubicMark 13 = .ok (.iload_n 1, 1) := by decide +kernel
theorem dX4_cubicMark_14 : decode cX4_cubicMark 14 = .ok (.iload_n 1, 1) := by decide +kernel
theorem dX4_cubicMark_15 : decode cX4_cubicMark 15 = .ok (.imul, 1) := by decide +kernel
theorem dX4_cubicMark_16 : decode cX4_cubicMark 16 = .ok (.iload_n 2, 1) := by decide +kernel
theorem dX4_cubicMark_17 : decode cX4_cubicMark 17 = .ok (.irem, 1) := by decide +kernel
theorem dX4_cubicMark_18 : decode cX4_cubicMark 18 = .ok (.imul, 1) := by decide +kernel
theorem dX4_cubicMark_19 : decode cX4_cubicMark 19 = .ok (.iadd, 1) := by decide +kernel
theorem dX4_cubicMark_20 : decode cX4_cubicMark 20 = .ok (.iload_n 2, 1) := by decide +kernel
theorem dX4_cubicMark_21 : decode cX4_cubicMark 21 = .ok (.irem, 1) := by decide +kernel
theorem dX4_cubicMark_22 : decode cX4_cubicMark 22 = .ok (.ireturn, 1) := by decide +kernel
set_option maxRecDepth 20000 in
theorem ggX5_init_X1_init : GoodIn wsX5_init wsX1_init := goodIn_r _ [17, 18, 2, 3, 19, 20, 21, 44, 45] (by decide +kernel) (by decide +kernel)
set_option maxRecDepth 20000 in
theorem gX5_init_X1_init : GoodIn wsX5_init (wsX1_init) := ggX5_init_X1_init
set_option maxRecDepth 20000 in
theorem ggX5_init_X3_init : GoodIn wsX5_init wsX3_init := goodIn_r _ [24, 25, 2, 3, 26, 27, 28, 29, 30, 19, 31, 32, 33, 34, 35, 36, 37, 38, 39, 46, 47, 48, 49, 50, 51, 52, 53, 54] (by decide +kernel) (by decide +kernel)
set_option maxRecDepth 20000 in
theorem gX5_init_X3_init : GoodIn wsX5_init (wsX3_init) := ggX5_init_X3_init
theorem dX5_init_0 : decode cX5_init 0 = .ok (.aload_n 0, 1) := by decide +kernel
theorem dX5_init_1 : decode cX5_init 1 = .ok (.invokespecial 3, 3) := by decide +kernel
theorem dX5_init_4 : decode cX5_init 4 = .ok (.aload_n 0, 1) := by decide +kernel
theorem dX5_init_5 : decode cX5_init 5 = .ok (.bipush 24, 2) := by decide +kernel
theorem dX5_init_7 : decode cX5_init 7 = .ok (.anewarray 9, 3) := by decide +kernel
theorem dX5_init_10 : decode cX5_init 10 = .ok (.putfield 11, 3) := by decide +kernel
theorem dX5_init_13 : decode cX5_init 13 = .ok (.aload_n 0, 1) := by decide +kernel
theorem dX5_init_14 : decode cX5_init 14 = .ok (.iconst 0, 1) := by decide +kernel
theorem dX5_init_15 : decode cX5_init 15 = .ok (.putfield 15, 3) := by decide +kernel
theorem dX5_init_18 : decode cX5_init 18 = .ok (.aload_n 0, 1) := by decide +kernel
theorem dX5_init_19 : decode cX5_init 19 = .ok (.new 19, 3) := by decide +kernel
theorem dX5_init_22 : decode cX5_init 22 = .ok (.dup, 1) := by decide +kernel
theorem dX5_init_23 : decode cX5_init 23 = .ok (.invokespecial 21, 3) := by decide +kernel
theorem dX5_init_26 : decode cX5_init 26 = .ok (.putfield 22, 3) := by decide +kernel
theorem dX5_init_29 : decode cX5_init 29 = .ok (.aload_n 0, 1) := by decide +kernel
theorem dX5_init_30 : decode cX5_init 30 = .ok (.new 26, 3) := by decide +kernel
theorem dX5_init_33 : decode cX5_init 33 = .ok (.dup, 1) := by decide +kernel
theorem dX5_init_34 : decode cX5_init 34 = .ok (.aload_n 0, 1) := by decide +kernel
theorem dX5_init_35 : decode cX5_init 35 = .ok (.getfield 22, 3) := by decide +kernel
theorem dX5_init_38 : decode cX5_init 38 = .ok (.invokespecial 28, 3) := by decide +kernel
theorem dX5_init_41 : decode cX5_init 41 = .ok (.putfield 31, 3) := by decide +kernel
theorem dX5_init_44 : decode cX5_init 44 = .ok (.return_, 1) := by decide +kernel
set_option maxRecDepth 20000 in
theorem ggX5_curve_X4_isFieldPrime : GoodIn wsX5_curve wsX4_isFieldPrime := goodIn_r _ [7, 8, 9, 6, 10, 11, 12, 13] (by decide +kernel) (by decide +kernel)
set_option maxRecDepth 20000 in
theorem gX5_curve_X4_isFieldPrime : GoodIn wsX5_curve (va_wsS RX5 35 yX4_isFieldPrime wsX4_isFieldPrime) := goodIn_app (goodIn_of _ (by decide +kernel)) ggX5_curve_X4_isFieldPrime
set_option maxRecDepth 20000 in
theorem ggX5_curve_X4_isBelow : GoodIn wsX5_curve wsX4_isBelow := goodIn_r _ [16] (by decide +kernel) (by decide +kernel)
set_option maxRecDepth 20000 in
theorem gX5_curve_X4_isBelow : GoodIn wsX5_curve (va_wsS RX5 41 yX4_isBelow wsX4_isBelow) := goodIn_app (goodIn_of _ (by decide +kernel)) ggX5_curve_X4_isBelow
set_option maxRecDepth 20000 in
theorem ggX5_curve_X4_cubicMark : GoodIn wsX5_curve wsX4_cubicMark := goodIn_r _ [19] (by decide +kernel) (by decide +kernel)
set_option maxRecDepth 20000 in
theorem gX5_curve_X4_cubicMark : GoodIn wsX5_curve (va_wsS RX5 45 yX4_cubicMark wsX4_cubicMark) := goodIn_app (goodIn_of _ (by decide +kernel)) ggX5_curve_X4_cubicMark
set_option maxRecDepth 20000 in
theorem ggX5_curve_X0_init : GoodIn wsX5_curve wsX0_init := goodIn_r _ [22, 23, 24, 25, 26, 27, 28, 29, 30, 38, 39, 40, 41, 42, 43, 44, 45, 46, 47, 48, 49] (by decide +kernel) (by decide +kernel)
set_option maxRecDepth 20000 in
theorem gX5_curve_X0_init : GoodIn wsX5_curve (wsX0_init) := ggX5_curve_X0_init
set_option maxRecDepth 20000 in
theorem ggX5_curve_X5_keep : GoodIn wsX5_curve wsX5_keep := goodIn_r _ [35, 36, 37, 50, 51, 52, 53] (by decide +kernel) (by decide +kernel)
set_option maxRecDepth 20000 in
theorem gX5_curve_X5_keep : GoodIn wsX5_curve (wsV RX5 52 RX5 yX5_keep wsX5_keep) := goodIn_app (goodIn_of _ (by decide +kernel)) ggX5_curve_X5_keep
theorem dX5_curve_0 : decode cX5_curve 0 = .ok (.iload_n 1, 1) := by decide +kernel
theorem dX5_curve_1 : decode cX5_curve 1 = .ok (.invokestatic 35, 3) := by decide +kernel
theorem dX5_curve_4 : decode cX5_curve 4 = .ok (.ifCond .eq 19, 3) := by decide +kernel
theorem dX5_curve_7 : decode cX5_curve 7 = .ok (.iload_n 2, 1) := by decide +kernel
theorem dX5_curve_8 : decode cX5_curve 8 = .ok (.iload_n 1, 1) := by decide +kernel
theorem dX5_curve_9 : decode cX5_curve 9 = .ok (.invokestatic 41, 3) := by decide +kernel
theorem dX5_curve_12 : decode cX5_curve 12 = .ok (.ifCond .eq 11, 3) := by decide +kernel
theorem dX5_curve_15 : decode cX5_curve 15 = .ok (.iload_n 3, 1) := by decide +kernel
theorem dX5_curve_16 : decode cX5_curve 16 = .ok (.iload_n 1, 1) := by decide +kernel
theorem dX5_curve_17 : decode cX5_curve 17 = .ok (.invokestatic 41, 3) := by decide +kernel
theorem dX5_curve_20 : decode cX5_curve 20 = .ok (.ifCond .ne 6, 3) := by decide +kernel
theorem dX5_curve_23 : decode cX5_curve 23 = .ok (.bipush (-2), 2) := by decide +kernel
theorem dX5_curve_25 : decode cX5_curve 25 = .ok (.ireturn, 1) := by decide +kernel
theorem dX5_curve_26 : decode cX5_curve 26 = .ok (.iload_n 2, 1) := by decide +kernel
theorem dX5_curve_27 : decode cX5_curve 27 = .ok (.iload_n 3, 1) := by decide +kernel
theorem dX5_curve_28 : decode cX5_curve 28 = .ok (.iload_n 1, 1) := by decide +kernel
theorem dX5_curve_29 : decode cX5_curve 29 = .ok (.invokestatic 45, 3) := by decide +kernel
theorem dX5_curve_32 : decode cX5_curve 32 = .ok (.ifCond .ne 6, 3) := by decide +kernel
theorem dX5_curve_35 : decode cX5_curve 35 = .ok (.bipush (-3), 2) := by decide +kernel
theorem dX5_curve_37 : decode cX5_curve 37 = .ok (.ireturn, 1) := by decide +kernel
theorem dX5_curve_38 : decode cX5_curve 38 = .ok (.aload_n 0, 1) := by decide +kernel
theorem dX5_curve_39 : decode cX5_curve 39 = .ok (.new 9, 3) := by decide +kernel
theorem dX5_curve_42 : decode cX5_curve 42 = .ok (.dup, 1) := by decide +kernel
theorem dX5_curve_43 : decode cX5_curve 43 = .ok (.iload_n 1, 1) := by decide +kernel
theorem dX5_curve_44 : decode cX5_curve 44 = .ok (.iload_n 2, 1) := by decide +kernel
theorem dX5_curve_45 : decode cX5_curve 45 = .ok (.iload_n 3, 1) := by decide +kernel
theorem dX5_curve_46 : decode cX5_curve 46 = .ok (.invokespecial 49, 3) := by decide +kernel
theorem dX5_curve_49 : decode cX5_curve 49 = .ok (.invokevirtual 52, 3) := by decide +kernel
theorem dX5_curve_52 : decode cX5_curve 52 = .ok (.ireturn, 1) := by decide +kernel
theorem dX5_told_0 : decode cX5_told 0 = .ok (.aload_n 0, 1) := by decide +kernel
theorem dX5_told_1 : decode cX5_told 1 = .ok (.iload_n 1, 1) := by decide +kernel
theorem dX5_told_2 : decode cX5_told 2 = .ok (.invokevirtual 56, 3) := by decide +kernel
theorem dX5_told_5 : decode cX5_told 5 = .ok (.astore_n 3, 1) := by decide +kernel
theorem dX5_told_6 : decode cX5_told 6 = .ok (.aload_n 3, 1) := by decide +kernel
theorem dX5_told_7 : decode cX5_told 7 = .ok (.ifnonnull 6, 3) := by decide +kernel
theorem dX5_told_10 : decode cX5_told 10 = .ok (.bipush (-2), 2) := by decide +kernel
theorem dX5_told_12 : decode cX5_told 12 = .ok (.ireturn, 1) := by decide +kernel
theorem dX5_twist_0 : decode cX5_twist 0 = .ok (.aload_n 0, 1) := by decide +kernel
theorem dX5_twist_1 : decode cX5_twist 1 = .ok (.iload_n 1, 1) := by decide +kernel
theorem dX5_twist_2 : decode cX5_twist 2 = .ok (.invokevirtual 56, 3) := by decide +kernel
theorem dX5_twist_5 : decode cX5_twist 5 = .ok (.astore_n 2, 1) := by decide +kernel
theorem dX5_twist_6 : decode cX5_twist 6 = .ok (.aload_n 2, 1) := by decide +kernel
theorem dX5_twist_7 : decode cX5_twist 7 = .ok (.ifnonnull 8, 3) := by decide +kernel
theorem dX5_twist_10 : decode cX5_twist 10 = .ok (.bipush (-2), 2) := by decide +kernel
theorem dX5_twist_12 : decode cX5_twist 12 = .ok (.goto 11, 3) := by decide +kernel
theorem dX5_twist_23 : decode cX5_twist 23 = .ok (.ireturn, 1) := by decide +kernel
theorem dX5_map_0 : decode cX5_map 0 = .ok (.aload_n 0, 1) := by decide +kernel
theorem dX5_map_1 : decode cX5_map 1 = .ok (.iload_n 1, 1) := by decide +kernel
theorem dX5_map_2 : decode cX5_map 2 = .ok (.invokevirtual 56, 3) := by decide +kernel
theorem dX5_map_5 : decode cX5_map 5 = .ok (.astore_n 3, 1) := by decide +kernel
theorem dX5_map_6 : decode cX5_map 6 = .ok (.aload_n 0, 1) := by decide +kernel
theorem dX5_map_7 : decode cX5_map 7 = .ok (.iload_n 2, 1) := by decide +kernel
theorem dX5_map_8 : decode cX5_map 8 = .ok (.invokevirtual 56, 3) := by decide +kernel
theorem dX5_map_11 : decode cX5_map 11 = .ok (.astore 4, 2) := by decide +kernel
theorem dX5_map_13 : decode cX5_map 13 = .ok (.aload_n 3, 1) := by decide +kernel
theorem dX5_map_14 : decode cX5_map 14 = .ok (.ifnull 8, 3) := by decide +kernel
theorem dX5_map_22 : decode cX5_map 22 = .ok (.bipush (-2), 2) := by decide +kernel
theorem dX5_map_24 : decode cX5_map 24 = .ok (.ireturn, 1) := by decide +kernel
theorem dX5_mapped_0 : decode cX5_mapped 0 = .ok (.aload_n 0, 1) := by decide +kernel
theorem dX5_mapped_1 : decode cX5_mapped 1 = .ok (.iload_n 1, 1) := by decide +kernel
theorem dX5_mapped_2 : decode cX5_mapped 2 = .ok (.invokevirtual 56, 3) := by decide +kernel
theorem dX5_mapped_5 : decode cX5_mapped 5 = .ok (.astore 4, 2) := by decide +kernel
theorem dX5_mapped_7 : decode cX5_mapped 7 = .ok (.aload 4, 2) := by decide +kernel
theorem dX5_mapped_9 : decode cX5_mapped 9 = .ok (.ifnull 28, 3) := by decide +kernel
theorem dX5_mapped_37 : decode cX5_mapped 37 = .ok (.bipush (-2), 2) := by decide +kernel
theorem dX5_mapped_39 : decode cX5_mapped 39 = .ok (.ireturn, 1) := by decide +kernel
theorem dX5_root_0 : decode cX5_root 0 = .ok (.aload_n 0, 1) := by decide +kernel
theorem dX5_root_1 : decode cX5_root 1 = .ok (.iload_n 1, 1) := by decide +kernel
theorem dX5_root_2 : decode cX5_root 2 = .ok (.invokevirtual 56, 3) := by decide +kernel
theorem dX5_root_5 : decode cX5_root 5 = .ok (.astore_n 3, 1) := by decide +kernel
theorem dX5_root_6 : decode cX5_root 6 = .ok (.aload_n 3, 1) := by decide +kernel
theorem dX5_root_7 : decode cX5_root 7 = .ok (.ifnonnull 8, 3) := by decide +kernel
theorem dX5_root_10 : decode cX5_root 10 = .ok (.bipush (-2), 2) := by decide +kernel
theorem dX5_root_12 : decode cX5_root 12 = .ok (.goto 22, 3) := by decide +kernel
theorem dX5_root_34 : decode cX5_root 34 = .ok (.ireturn, 1) := by decide +kernel
theorem dX5_inverse_0 : decode cX5_inverse 0 = .ok (.aload_n 0, 1) := by decide +kernel
theorem dX5_inverse_1 : decode cX5_inverse 1 = .ok (.iload_n 1, 1) := by decide +kernel
theorem dX5_inverse_2 : decode cX5_inverse 2 = .ok (.invokevirtual 56, 3) := by decide +kernel
theorem dX5_inverse_5 : decode cX5_inverse 5 = .ok (.astore_n 3, 1) := by decide +kernel
theorem dX5_inverse_6 : decode cX5_inverse 6 = .ok (.aload_n 3, 1) := by decide +kernel
theorem dX5_inverse_7 : decode cX5_inverse 7 = .ok (.ifnonnull 6, 3) := by decide +kernel
theorem dX5_inverse_10 : decode cX5_inverse 10 = .ok (.bipush (-2), 2) := by decide +kernel
theorem dX5_inverse_12 : decode cX5_inverse 12 = .ok (.ireturn, 1) := by decide +kernel
theorem dX5_power_0 : decode cX5_power 0 = .ok (.aload_n 0, 1) := by decide +kernel
theorem dX5_power_1 : decode cX5_power 1 = .ok (.iload_n 1, 1) := by decide +kernel
theorem dX5_power_2 : decode cX5_power 2 = .ok (.invokevirtual 56, 3) := by decide +kernel
theorem dX5_power_5 : decode cX5_power 5 = .ok (.astore 5, 2) := by decide +kernel
theorem dX5_power_7 : decode cX5_power 7 = .ok (.aload 5, 2) := by decide +kernel
theorem dX5_power_9 : decode cX5_power 9 = .ok (.ifnull 9, 3) := by decide +kernel
theorem dX5_power_18 : decode cX5_power 18 = .ok (.bipush (-2), 2) := by decide +kernel
theorem dX5_power_20 : decode cX5_power 20 = .ok (.ireturn, 1) := by decide +kernel
theorem dX5_generator_0 : decode cX5_generator 0 = .ok (.aload_n 0, 1) := by decide +kernel
theorem dX5_generator_1 : decode cX5_generator 1 = .ok (.iload_n 1, 1) := by decide +kernel
theorem dX5_generator_2 : decode cX5_generator 2 = .ok (.invokevirtual 56, 3) := by decide +kernel
theorem dX5_generator_5 : decode cX5_generator 5 = .ok (.astore_n 2, 1) := by decide +kernel
theorem dX5_generator_6 : decode cX5_generator 6 = .ok (.aload_n 2, 1) := by decide +kernel
theorem dX5_generator_7 : decode cX5_generator 7 = .ok (.ifnonnull 8, 3) := by decide +kernel
theorem dX5_generator_10 : decode cX5_generator 10 = .ok (.bipush (-2), 2) := by decide +kernel
theorem dX5_generator_12 : decode cX5_generator 12 = .ok (.goto 10, 3) := by decide +kernel
theorem dX5_generator_22 : decode cX5_generator 22 = .ok (.ireturn, 1) := by decide +kernel
theorem dX5_point_0 : decode cX5_point 0 = .ok (.aload_n 0, 1) := by decide +kernel
theorem dX5_point_1 : decode cX5_point 1 = .ok (.iload_n 1, 1) := by decide +kernel
theorem dX5_point_2 : decode cX5_point 2 = .ok (.invokevirtual 56, 3) := by decide +kernel
theorem dX5_point_5 : decode cX5_point 5 = .ok (.astore 4, 2) := by decide +kernel
theorem dX5_point_7 : decode cX5_point 7 = .ok (.aload 4, 2) := by decide +kernel
theorem dX5_point_9 : decode cX5_point 9 = .ok (.ifnull 27, 3) := by decide +kernel
theorem dX5_point_36 : decode cX5_point 36 = .ok (.bipush (-2), 2) := by decide +kernel
theorem dX5_point_38 : decode cX5_point 38 = .ok (.ireturn, 1) := by decide +kernel
theorem dX5_lift_0 : decode cX5_lift 0 = .ok (.aload_n 0, 1) := by decide +kernel
theorem dX5_lift_1 : decode cX5_lift 1 = .ok (.iload_n 1, 1) := by decide +kernel
theorem dX5_lift_2 : decode cX5_lift 2 = .ok (.invokevirtual 56, 3) := by decide +kernel
theorem dX5_lift_5 : decode cX5_lift 5 = .ok (.astore 4, 2) := by decide +kernel
theorem dX5_lift_7 : decode cX5_lift 7 = .ok (.aload 4, 2) := by decide +kernel
theorem dX5_lift_9 : decode cX5_lift 9 = .ok (.ifnull 15, 3) := by decide +kernel
theorem dX5_lift_24 : decode cX5_lift 24 = .ok (.bipush (-2), 2) := by decide +kernel
theorem dX5_lift_26 : decode cX5_lift 26 = .ok (.ireturn, 1) := by decide +kernel
theorem dX5_near_0 : decode cX5_near 0 = .ok (.aload_n 0, 1) := by decide +kernel
theorem dX5_near_1 : decode cX5_near 1 = .ok (.iload_n 1, 1) := by decide +kernel
theorem dX5_near_2 : decode cX5_near 2 = .ok (.invokevirtual 56, 3) := by decide +kernel
theorem dX5_near_5 : decode cX5_near 5 = .ok (.astore_n 3, 1) := by decide +kernel
theorem dX5_near_6 : decode cX5_near 6 = .ok (.aload_n 3, 1) := by decide +kernel
theorem dX5_near_7 : decode cX5_near 7 = .ok (.ifnonnull 6, 3) := by decide +kernel
theorem dX5_near_10 : decode cX5_near 10 = .ok (.bipush (-2), 2) := by decide +kernel
theorem dX5_near_12 : decode cX5_near 12 = .ok (.ireturn, 1) := by decide +kernel
theorem dX5_nth_0 : decode cX5_nth 0 = .ok (.aload_n 0, 1) := by decide +kernel
theorem dX5_nth_1 : decode cX5_nth 1 = .ok (.iload_n 1, 1) := by decide +kernel
theorem dX5_nth_2 : decode cX5_nth 2 = .ok (.invokevirtual 56, 3) := by decide +kernel
theorem dX5_nth_5 : decode cX5_nth 5 = .ok (.astore_n 3, 1) := by decide +kernel
theorem dX5_nth_6 : decode cX5_nth 6 = .ok (.aload_n 3, 1) := by decide +kernel
theorem dX5_nth_7 : decode cX5_nth 7 = .ok (.ifnonnull 6, 3) := by decide +kernel
theorem dX5_nth_10 : decode cX5_nth 10 = .ok (.bipush (-2), 2) := by decide +kernel
theorem dX5_nth_12 : decode cX5_nth 12 = .ok (.ireturn, 1) := by decide +kernel
theorem dX5_rank_0 : decode cX5_rank 0 = .ok (.aload_n 0, 1) := by decide +kernel
theorem dX5_rank_1 : decode cX5_rank 1 = .ok (.iload_n 1, 1) := by decide +kernel
theorem dX5_rank_2 : decode cX5_rank 2 = .ok (.invokevirtual 56, 3) := by decide +kernel
theorem dX5_rank_5 : decode cX5_rank 5 = .ok (.astore_n 3, 1) := by decide +kernel
theorem dX5_rank_6 : decode cX5_rank 6 = .ok (.aload_n 3, 1) := by decide +kernel
theorem dX5_rank_7 : decode cX5_rank 7 = .ok (.ifnull 11, 3) := by decide +kernel
theorem dX5_rank_18 : decode cX5_rank 18 = .ok (.bipush (-2), 2) := by decide +kernel
theorem dX5_rank_20 : decode cX5_rank 20 = .ok (.ireturn, 1) := by decide +kernel
theorem dX5_add_0 : decode cX5_add 0 = .ok (.aload_n 0, 1) := by decide +kernel
theorem dX5_add_1 : decode cX5_add 1 = .ok (.iload_n 1, 1) := by decide +kernel
theorem dX5_add_2 : decode cX5_add 2 = .ok (.invokevirtual 56, 3) := by decide +kernel
theorem dX5_add_5 : decode cX5_add 5 = .ok (.astore 4, 2) := by decide +kernel
theorem dX5_add_7 : decode cX5_add 7 = .ok (.aload 4, 2) := by decide +kernel
theorem dX5_add_9 : decode cX5_add 9 = .ok (.ifnull 21, 3) := by decide +kernel
theorem dX5_add_30 : decode cX5_add 30 = .ok (.bipush (-2), 2) := by decide +kernel
theorem dX5_add_32 : decode cX5_add 32 = .ok (.ireturn, 1) := by decide +kernel
theorem dX5_negative_0 : decode cX5_negative 0 = .ok (.aload_n 0, 1) := by decide +kernel
theorem dX5_negative_1 : decode cX5_negative 1 = .ok (.iload_n 1, 1) := by decide +kernel
theorem dX5_negative_2 : decode cX5_negative 2 = .ok (.invokevirtual 56, 3) := by decide +kernel
theorem dX5_negative_5 : decode cX5_negative 5 = .ok (.astore_n 3, 1) := by decide +kernel
theorem dX5_negative_6 : decode cX5_negative 6 = .ok (.aload_n 3, 1) := by decide +kernel
theorem dX5_negative_7 : decode cX5_negative 7 = .ok (.ifnull 11, 3) := by decide +kernel
theorem dX5_negative_18 : decode cX5_negative 18 = .ok (.bipush (-2), 2) := by decide +kernel
theorem dX5_negative_20 : decode cX5_negative 20 = .ok (.goto 8, 3) := by decide +kernel
theorem dX5_negative_28 : decode cX5_negative 28 = .ok (.ireturn, 1) := by decide +kernel
theorem dX5_times_0 : decode cX5_times 0 = .ok (.aload_n 0, 1) := by decide +kernel
theorem dX5_times_1 : decode cX5_times 1 = .ok (.iload_n 1, 1) := by decide +kernel
theorem dX5_times_2 : decode cX5_times 2 = .ok (.invokevirtual 56, 3) := by decide +kernel
theorem dX5_times_5 : decode cX5_times 5 = .ok (.astore 5, 2) := by decide +kernel
theorem dX5_times_7 : decode cX5_times 7 = .ok (.aload 5, 2) := by decide +kernel
theorem dX5_times_9 : decode cX5_times 9 = .ok (.ifnull 12, 3) := by decide +kernel
theorem dX5_times_21 : decode cX5_times 21 = .ok (.bipush (-2), 2) := by decide +kernel
theorem dX5_times_23 : decode cX5_times 23 = .ok (.goto 10, 3) := by decide +kernel
theorem dX5_times_33 : decode cX5_times 33 = .ok (.ireturn, 1) := by decide +kernel
theorem dX5_alone_0 : decode cX5_alone 0 = .ok (.aload_n 0, 1) := by decide +kernel
theorem dX5_alone_1 : decode cX5_alone 1 = .ok (.iload_n 1, 1) := by decide +kernel
theorem dX5_alone_2 : decode cX5_alone 2 = .ok (.invokevirtual 56, 3) := by decide +kernel
theorem dX5_alone_5 : decode cX5_alone 5 = .ok (.astore 5, 2) := by decide +kernel
theorem dX5_alone_7 : decode cX5_alone 7 = .ok (.aload 5, 2) := by decide +kernel
theorem dX5_alone_9 : decode cX5_alone 9 = .ok (.ifnull 15, 3) := by decide +kernel
theorem dX5_alone_24 : decode cX5_alone 24 = .ok (.bipush (-2), 2) := by decide +kernel
theorem dX5_alone_26 : decode cX5_alone 26 = .ok (.ireturn, 1) := by decide +kernel
theorem dX5_count_0 : decode cX5_count 0 = .ok (.aload_n 0, 1) := by decide +kernel
theorem dX5_count_1 : decode cX5_count 1 = .ok (.iload_n 1, 1) := by decide +kernel
theorem dX5_count_2 : decode cX5_count 2 = .ok (.invokevirtual 56, 3) := by decide +kernel
theorem dX5_count_5 : decode cX5_count 5 = .ok (.astore_n 2, 1) := by decide +kernel
theorem dX5_count_6 : decode cX5_count 6 = .ok (.aload_n 2, 1) := by decide +kernel
theorem dX5_count_7 : decode cX5_count 7 = .ok (.ifnonnull 8, 3) := by decide +kernel
theorem dX5_count_10 : decode cX5_count 10 = .ok (.bipush (-2), 2) := by decide +kernel
theorem dX5_count_12 : decode cX5_count 12 = .ok (.goto 11, 3) := by decide +kernel
theorem dX5_count_23 : decode cX5_count 23 = .ok (.ireturn, 1) := by decide +kernel
theorem dX5_countOver_0 : decode cX5_countOver 0 = .ok (.aload_n 0, 1) := by decide +kernel
theorem dX5_countOver_1 : decode cX5_countOver 1 = .ok (.iload_n 1, 1) := by decide +kernel
theorem dX5_countOver_2 : decode cX5_countOver 2 = .ok (.invokevirtual 56, 3) := by decide +kernel
theorem dX5_countOver_5 : decode cX5_countOver 5 = .ok (.astore_n 3, 1) := by decide +kernel
theorem dX5_countOver_6 : decode cX5_countOver 6 = .ok (.aload_n 3, 1) := by decide +kernel
theorem dX5_countOver_7 : decode cX5_countOver 7 = .ok (.ifnull 13, 3) := by decide +kernel
theorem dX5_countOver_20 : decode cX5_countOver 20 = .ok (.ldc2_w 144, 3) := by decide +kernel
theorem dX5_countOver_23 : decode cX5_countOver 23 = .ok (.lreturn, 1) := by decide +kernel
theorem dX5_bound_0 : decode cX5_bound 0 = .ok (.aload_n 0, 1) := by decide +kernel
theorem dX5_bound_1 : decode cX5_bound 1 = .ok (.iload_n 1, 1) := by decide +kernel
theorem dX5_bound_2 : decode cX5_bound 2 = .ok (.invokevirtual 56, 3) := by decide +kernel
theorem dX5_bound_5 : decode cX5_bound 5 = .ok (.astore_n 3, 1) := by decide +kernel
theorem dX5_bound_6 : decode cX5_bound 6 = .ok (.aload_n 3, 1) := by decide +kernel
theorem dX5_bound_7 : decode cX5_bound 7 = .ok (.ifnull 12, 3) := by decide +kernel
theorem dX5_bound_19 : decode cX5_bound 19 = .ok (.bipush (-2), 2) := by decide +kernel
theorem dX5_bound_21 : decode cX5_bound 21 = .ok (.ireturn, 1) := by decide +kernel
theorem dX5_proof_0 : decode cX5_proof 0 = .ok (.aload_n 0, 1) := by decide +kernel
theorem dX5_proof_1 : decode cX5_proof 1 = .ok (.iload_n 1, 1) := by decide +kernel
theorem dX5_proof_2 : decode cX5_proof 2 = .ok (.invokevirtual 56, 3) := by decide +kernel
theorem dX5_proof_5 : decode cX5_proof 5 = .ok (.astore_n 3, 1) := by decide +kernel
theorem dX5_proof_6 : decode cX5_proof 6 = .ok (.aload_n 3, 1) := by decide +kernel
theorem dX5_proof_7 : decode cX5_proof 7 = .ok (.ifnull 12, 3) := by decide +kernel
theorem dX5_proof_19 : decode cX5_proof 19 = .ok (.bipush (-2), 2) := by decide +kernel
theorem dX5_proof_21 : decode cX5_proof 21 = .ok (.ireturn, 1) := by decide +kernel
theorem dX5_supersingular_0 : decode cX5_supersingular 0 = .ok (.aload_n 0, 1) := by decide +kernel
theorem dX5_supersingular_1 : decode cX5_supersingular 1 = .ok (.iload_n 1, 1) := by decide +kernel
theorem dX5_supersingular_2 : decode cX5_supersingular 2 = .ok (.invokevirtual 56, 3) := by decide +kernel
theorem dX5_supersingular_5 : decode cX5_supersingular 5 = .ok (.astore_n 2, 1) := by decide +kernel
theorem dX5_supersingular_6 : decode cX5_supersingular 6 = .ok (.aload_n 2, 1) := by decide +kernel
theorem dX5_supersingular_7 : decode cX5_supersingular 7 = .ok (.ifnonnull 6, 3) := by decide +kernel
theorem dX5_supersingular_10 : decode cX5_supersingular 10 = .ok (.bipush (-2), 2) := by decide +kernel
theorem dX5_supersingular_12 : decode cX5_supersingular 12 = .ok (.ireturn, 1) := by decide +kernel
theorem dX5_order_0 : decode cX5_order 0 = .ok (.aload_n 0, 1) := by decide +kernel
theorem dX5_order_1 : decode cX5_order 1 = .ok (.iload_n 1, 1) := by decide +kernel
theorem dX5_order_2 : decode cX5_order 2 = .ok (.invokevirtual 56, 3) := by decide +kernel
theorem dX5_order_5 : decode cX5_order 5 = .ok (.astore_n 3, 1) := by decide +kernel
theorem dX5_order_6 : decode cX5_order 6 = .ok (.aload_n 3, 1) := by decide +kernel
theorem dX5_order_7 : decode cX5_order 7 = .ok (.ifnull 11, 3) := by decide +kernel
theorem dX5_order_18 : decode cX5_order 18 = .ok (.bipush (-2), 2) := by decide +kernel
theorem dX5_order_20 : decode cX5_order 20 = .ok (.ireturn, 1) := by decide +kernel
theorem dX5_ofOrder_0 : decode cX5_ofOrder 0 = .ok (.aload_n 0, 1) := by decide +kernel
theorem dX5_ofOrder_1 : decode cX5_ofOrder 1 = .ok (.iload_n 1, 1) := by decide +kernel
theorem dX5_ofOrder_2 : decode cX5_ofOrder 2 = .ok (.invokevirtual 56, 3) := by decide +kernel
theorem dX5_ofOrder_5 : decode cX5_ofOrder 5 = .ok (.astore_n 3, 1) := by decide +kernel
theorem dX5_ofOrder_6 : decode cX5_ofOrder 6 = .ok (.aload_n 3, 1) := by decide +kernel
theorem dX5_ofOrder_7 : decode cX5_ofOrder 7 = .ok (.ifnull 8, 3) := by decide +kernel
theorem dX5_ofOrder_15 : decode cX5_ofOrder 15 = .ok (.bipush (-2), 2) := by decide +kernel
theorem dX5_ofOrder_17 : decode cX5_ofOrder 17 = .ok (.ireturn, 1) := by decide +kernel
theorem dX5_torsion_0 : decode cX5_torsion 0 = .ok (.aload_n 0, 1) := by decide +kernel
theorem dX5_torsion_1 : decode cX5_torsion 1 = .ok (.iload_n 1, 1) := by decide +kernel
theorem dX5_torsion_2 : decode cX5_torsion 2 = .ok (.invokevirtual 56, 3) := by decide +kernel
theorem dX5_torsion_5 : decode cX5_torsion 5 = .ok (.astore_n 3, 1) := by decide +kernel
theorem dX5_torsion_6 : decode cX5_torsion 6 = .ok (.aload_n 3, 1) := by decide +kernel
theorem dX5_torsion_7 : decode cX5_torsion 7 = .ok (.ifnull 8, 3) := by decide +kernel
theorem dX5_torsion_15 : decode cX5_torsion 15 = .ok (.bipush (-2), 2) := by decide +kernel
theorem dX5_torsion_17 : decode cX5_torsion 17 = .ok (.ireturn, 1) := by decide +kernel
theorem dX5_made_0 : decode cX5_made 0 = .ok (.aload_n 0, 1) := by decide +kernel
theorem dX5_made_1 : decode cX5_made 1 = .ok (.iload_n 1, 1) := by decide +kernel
theorem dX5_made_2 : decode cX5_made 2 = .ok (.invokevirtual 56, 3) := by decide +kernel
theorem dX5_made_5 : decode cX5_made 5 = .ok (.astore_n 3, 1) := by decide +kernel
theorem dX5_made_6 : decode cX5_made 6 = .ok (.aload_n 3, 1) := by decide +kernel
theorem dX5_made_7 : decode cX5_made 7 = .ok (.ifnull 12, 3) := by decide +kernel
theorem dX5_made_19 : decode cX5_made 19 = .ok (.bipush (-2), 2) := by decide +kernel
theorem dX5_made_21 : decode cX5_made 21 = .ok (.ireturn, 1) := by decide +kernel
theorem dX5_halves_0 : decode cX5_halves 0 = .ok (.aload_n 0, 1) := by decide +kernel
theorem dX5_halves_1 : decode cX5_halves 1 = .ok (.iload_n 1, 1) := by decide +kernel
theorem dX5_halves_2 : decode cX5_halves 2 = .ok (.invokevirtual 56, 3) := by decide +kernel
theorem dX5_halves_5 : decode cX5_halves 5 = .ok (.astore_n 3, 1) := by decide +kernel
theorem dX5_halves_6 : decode cX5_halves 6 = .ok (.aload_n 3, 1) := by decide +kernel
theorem dX5_halves_7 : decode cX5_halves 7 = .ok (.ifnull 11, 3) := by decide +kernel
theorem dX5_halves_18 : decode cX5_halves 18 = .ok (.bipush (-2), 2) := by decide +kernel
theorem dX5_halves_20 : decode cX5_halves 20 = .ok (.goto 12, 3) := by decide +kernel
theorem dX5_halves_32 : decode cX5_halves 32 = .ok (.ireturn, 1) := by decide +kernel
theorem dX5_half_0 : decode cX5_half 0 = .ok (.aload_n 0, 1) := by decide +kernel
theorem dX5_half_1 : decode cX5_half 1 = .ok (.iload_n 1, 1) := by decide +kernel
theorem dX5_half_2 : decode cX5_half 2 = .ok (.invokevirtual 56, 3) := by decide +kernel
theorem dX5_half_5 : decode cX5_half 5 = .ok (.astore 4, 2) := by decide +kernel
theorem dX5_half_7 : decode cX5_half 7 = .ok (.aload 4, 2) := by decide +kernel
theorem dX5_half_9 : decode cX5_half 9 = .ok (.ifnull 12, 3) := by decide +kernel
theorem dX5_half_21 : decode cX5_half 21 = .ok (.bipush (-2), 2) := by decide +kernel
theorem dX5_half_23 : decode cX5_half 23 = .ok (.ireturn, 1) := by decide +kernel
theorem dX5_log_0 : decode cX5_log 0 = .ok (.aload_n 0, 1) := by decide +kernel
theorem dX5_log_1 : decode cX5_log 1 = .ok (.iload_n 1, 1) := by decide +kernel
theorem dX5_log_2 : decode cX5_log 2 = .ok (.invokevirtual 56, 3) := by decide +kernel
theorem dX5_log_5 : decode cX5_log 5 = .ok (.astore 4, 2) := by decide +kernel
theorem dX5_log_7 : decode cX5_log 7 = .ok (.aload 4, 2) := by decide +kernel
theorem dX5_log_9 : decode cX5_log 9 = .ok (.ifnull 21, 3) := by decide +kernel
theorem dX5_log_30 : decode cX5_log 30 = .ok (.bipush (-2), 2) := by decide +kernel
theorem dX5_log_32 : decode cX5_log 32 = .ok (.ireturn, 1) := by decide +kernel
theorem dX5_embedding_0 : decode cX5_embedding 0 = .ok (.aload_n 0, 1) := by decide +kernel
theorem dX5_embedding_1 : decode cX5_embedding 1 = .ok (.iload_n 1, 1) := by decide +kernel
theorem dX5_embedding_2 : decode cX5_embedding 2 = .ok (.invokevirtual 56, 3) := by decide +kernel
theorem dX5_embedding_5 : decode cX5_embedding 5 = .ok (.astore_n 3, 1) := by decide +kernel
theorem dX5_embedding_6 : decode cX5_embedding 6 = .ok (.aload_n 3, 1) := by decide +kernel
theorem dX5_embedding_7 : decode cX5_embedding 7 = .ok (.ifnull 15, 3) := by decide +kernel
theorem dX5_embedding_22 : decode cX5_embedding 22 = .ok (.bipush (-2), 2) := by decide +kernel
theorem dX5_embedding_24 : decode cX5_embedding 24 = .ok (.ireturn, 1) := by decide +kernel
theorem dX5_quotient_0 : decode cX5_quotient 0 = .ok (.aload_n 0, 1) := by decide +kernel
theorem dX5_quotient_1 : decode cX5_quotient 1 = .ok (.iload_n 1, 1) := by decide +kernel
theorem dX5_quotient_2 : decode cX5_quotient 2 = .ok (.invokevirtual 56, 3) := by decide +kernel
theorem dX5_quotient_5 : decode cX5_quotient 5 = .ok (.astore_n 3, 1) := by decide +kernel
theorem dX5_quotient_6 : decode cX5_quotient 6 = .ok (.aload_n 3, 1) := by decide +kernel
theorem dX5_quotient_7 : decode cX5_quotient 7 = .ok (.ifnull 11, 3) := by decide +kernel
theorem dX5_quotient_18 : decode cX5_quotient 18 = .ok (.bipush (-2), 2) := by decide +kernel
theorem dX5_quotient_20 : decode cX5_quotient 20 = .ok (.ireturn, 1) := by decide +kernel
theorem dX5_image_0 : decode cX5_image 0 = .ok (.aload_n 0, 1) := by decide +kernel
theorem dX5_image_1 : decode cX5_image 1 = .ok (.iload_n 1, 1) := by decide +kernel
theorem dX5_image_2 : decode cX5_image 2 = .ok (.invokevirtual 202, 3) := by decide +kernel
theorem dX5_image_5 : decode cX5_image 5 = .ok (.astore_n 3, 1) := by decide +kernel
theorem dX5_image_6 : decode cX5_image 6 = .ok (.aload_n 3, 1) := by decide +kernel
theorem dX5_image_7 : decode cX5_image 7 = .ok (.ifnonnull 7, 3) := by decide +kernel
theorem dX5_image_10 : decode cX5_image 10 = .ok (.aconst_null, 1) := by decide +kernel
theorem dX5_image_11 : decode cX5_image 11 = .ok (.goto 11, 3) := by decide +kernel
theorem dX5_image_22 : decode cX5_image 22 = .ok (.astore 4, 2) := by decide +kernel
theorem dX5_image_24 : decode cX5_image 24 = .ok (.aload 4, 2) := by decide +kernel
theorem dX5_image_26 : decode cX5_image 26 = .ok (.ifnull 12, 3) := by decide +kernel
theorem dX5_image_38 : decode cX5_image 38 = .ok (.bipush (-2), 2) := by decide +kernel
theorem dX5_image_40 : decode cX5_image 40 = .ok (.ireturn, 1) := by decide +kernel
theorem dX5_kernel_0 : decode cX5_kernel 0 = .ok (.aload_n 0, 1) := by decide +kernel
theorem dX5_kernel_1 : decode cX5_kernel 1 = .ok (.iload_n 1, 1) := by decide +kernel
theorem dX5_kernel_2 : decode cX5_kernel 2 = .ok (.invokevirtual 202, 3) := by decide +kernel
theorem dX5_kernel_5 : decode cX5_kernel 5 = .ok (.astore_n 3, 1) := by decide +kernel
theorem dX5_kernel_6 : decode cX5_kernel 6 = .ok (.aload_n 3, 1) := by decide +kernel
theorem dX5_kernel_7 : decode cX5_kernel 7 = .ok (.ifnonnull 6, 3) := by decide +kernel
theorem dX5_kernel_10 : decode cX5_kernel 10 = .ok (.bipush (-2), 2) := by decide +kernel
theorem dX5_kernel_12 : decode cX5_kernel 12 = .ok (.ireturn, 1) := by decide +kernel
theorem dX5_sign_0 : decode cX5_sign 0 = .ok (.aload_n 0, 1) := by decide +kernel
theorem dX5_sign_1 : decode cX5_sign 1 = .ok (.iload_n 1, 1) := by decide +kernel
theorem dX5_sign_2 : decode cX5_sign 2 = .ok (.invokevirtual 56, 3) := by decide +kernel
theorem dX5_sign_5 : decode cX5_sign 5 = .ok (.astore 7, 2) := by decide +kernel
theorem dX5_sign_7 : decode cX5_sign 7 = .ok (.aload_n 0, 1) := by decide +kernel
theorem dX5_sign_8 : decode cX5_sign 8 = .ok (.aload 7, 2) := by decide +kernel
theorem dX5_sign_10 : decode cX5_sign 10 = .ok (.iload_n 2, 1) := by decide +kernel
theorem dX5_sign_11 : decode cX5_sign 11 = .ok (.invokevirtual 217, 3) := by decide +kernel
theorem dX5_sign_14 : decode cX5_sign 14 = .ok (.istore 8, 2) := by decide +kernel
theorem dX5_sign_16 : decode cX5_sign 16 = .ok (.iload 8, 2) := by decide +kernel
theorem dX5_sign_18 : decode cX5_sign 18 = .ok (.ifCond .eq 43, 3) := by decide +kernel
theorem dX5_sign_61 : decode cX5_sign 61 = .ok (.bipush (-2), 2) := by decide +kernel
theorem dX5_sign_63 : decode cX5_sign 63 = .ok (.ireturn, 1) := by decide +kernel
theorem dX5_good_0 : decode cX5_good 0 = .ok (.aload_n 0, 1) := by decide +kernel
theorem dX5_good_1 : decode cX5_good 1 = .ok (.iload_n 1, 1) := by decide +kernel
theorem dX5_good_2 : decode cX5_good 2 = .ok (.invokevirtual 56, 3) := by decide +kernel
theorem dX5_good_5 : decode cX5_good 5 = .ok (.astore 7, 2) := by decide +kernel
theorem dX5_good_7 : decode cX5_good 7 = .ok (.aload_n 0, 1) := by decide +kernel
theorem dX5_good_8 : decode cX5_good 8 = .ok (.aload 7, 2) := by decide +kernel
theorem dX5_good_10 : decode cX5_good 10 = .ok (.iload_n 2, 1) := by decide +kernel
theorem dX5_good_11 : decode cX5_good 11 = .ok (.invokevirtual 217, 3) := by decide +kernel
theorem dX5_good_14 : decode cX5_good 14 = .ok (.istore 8, 2) := by decide +kernel
theorem dX5_good_16 : decode cX5_good 16 = .ok (.iload 8, 2) := by decide +kernel
theorem dX5_good_18 : decode cX5_good 18 = .ok (.ifCond .eq 17, 3) := by decide +kernel
theorem dX5_good_35 : decode cX5_good 35 = .ok (.bipush (-2), 2) := by decide +kernel
theorem dX5_good_37 : decode cX5_good 37 = .ok (.ireturn, 1) := by decide +kernel
set_option maxRecDepth 20000 in
theorem ggX5_census_X4_isFieldPrime : GoodIn wsX5_census wsX4_isFieldPrime := goodIn_r _ [5, 6, 7, 4, 8, 9, 10, 11] (by decide +kernel) (by decide +kernel)
set_option maxRecDepth 20000 in
theorem gX5_census_X4_isFieldPrime : GoodIn wsX5_census (va_wsS RX5 35 yX4_isFieldPrime wsX4_isFieldPrime) := goodIn_app (goodIn_of _ (by decide +kernel)) ggX5_census_X4_isFieldPrime
set_option maxRecDepth 20000 in
theorem ggX5_census_X3_pairsWith : GoodIn wsX5_census wsX3_pairsWith := goodIn_r _ [16, 17, 18, 19, 15, 20, 21, 22, 23, 24, 25, 26, 27, 28, 29, 30, 31, 32, 33, 34, 35, 36, 37, 38, 39, 40, 41, 42, 43, 44, 49, 50, 51, 52, 53] (by decide +kernel) (by decide +kernel)
set_option maxRecDepth 20000 in
theorem gX5_census_X3_pairsWith : GoodIn wsX5_census (wsV RX5 220 RX3 yX3_pairsWith wsX3_pairsWith) := goodIn_app (goodIn_of _ (by decide +kernel)) ggX5_census_X3_pairsWith
theorem dX5_census_0 : decode cX5_census 0 = .ok (.iload_n 1, 1) := by decide +kernel
theorem dX5_census_1 : decode cX5_census 1 = .ok (.bipush 61, 2) := by decide +kernel
theorem dX5_census_3 : decode cX5_census 3 = .ok (.if_icmp .gt 10, 3) := by decide +kernel
theorem dX5_census_6 : decode cX5_census 6 = .ok (.iload_n 1, 1) := by decide +kernel
theorem dX5_census_7 : decode cX5_census 7 = .ok (.invokestatic 35, 3) := by decide +kernel
theorem dX5_census_10 : decode cX5_census 10 = .ok (.ifCond .ne 8, 3) := by decide +kernel
theorem dX5_census_13 : decode cX5_census 13 = .ok (.bipush (-2), 2) := by decide +kernel
theorem dX5_census_15 : decode cX5_census 15 = .ok (.goto 12, 3) := by decide +kernel
theorem dX5_census_18 : decode cX5_census 18 = .ok (.aload_n 0, 1) := by decide +kernel
theorem dX5_census_19 : decode cX5_census 19 = .ok (.getfield 31, 3) := by decide +kernel
theorem dX5_census_22 : decode cX5_census 22 = .ok (.iload_n 1, 1) := by decide +kernel
theorem dX5_census_23 : decode cX5_census 23 = .ok (.iload_n 2, 1) := by decide +kernel
theorem dX5_census_24 : decode cX5_census 24 = .ok (.invokevirtual 220, 3) := by decide +kernel
theorem dX5_census_27 : decode cX5_census 27 = .ok (.ireturn, 1) := by decide +kernel
set_option maxRecDepth 20000 in
theorem ggX5_kinds_X4_isFieldPrime : GoodIn wsX5_kinds wsX4_isFieldPrime := goodIn_r _ [5, 6, 7, 4, 8, 9, 10, 11] (by decide +kernel) (by decide +kernel)
set_option maxRecDepth 20000 in
theorem gX5_kinds_X4_isFieldPrime : GoodIn wsX5_kinds (va_wsS RX5 35 yX4_isFieldPrime wsX4_isFieldPrime) := goodIn_app (goodIn_of _ (by decide +kernel)) ggX5_kinds_X4_isFieldPrime
set_option maxRecDepth 20000 in
theorem ggX5_kinds_X3_kindsWith : GoodIn wsX5_kinds wsX3_kindsWith := goodIn_r _ [16, 17, 18, 19, 15, 20, 21, 22, 23, 24, 25, 26, 27, 28, 29, 30, 31, 32, 33, 34, 35, 36, 37, 38, 39, 40, 41, 42, 43, 44, 49, 50, 51, 52, 53] (by decide +kernel) (by decide +kernel)
set_option maxRecDepth 20000 in
theorem gX5_kinds_X3_kindsWith : GoodIn wsX5_kinds (wsV RX5 223 RX3 yX3_kindsWith wsX3_kindsWith) := goodIn_app (goodIn_of _ (by decide +kernel)) ggX5_kinds_X3_kindsWith
theorem dX5_kinds_0 : decode cX5_kinds 0 = .ok (.iload_n 1, 1) := by decide +kernel
theorem dX5_kinds_1 : decode cX5_kinds 1 = .ok (.bipush 61, 2) := by decide +kernel
theorem dX5_kinds_3 : decode cX5_kinds 3 = .ok (.if_icmp .gt 10, 3) := by decide +kernel
theorem dX5_kinds_6 : decode cX5_kinds 6 = .ok (.iload_n 1, 1) := by decide +kernel
theorem dX5_kinds_7 : decode cX5_kinds 7 = .ok (.invokestatic 35, 3) := by decide +kernel
theorem dX5_kinds_10 : decode cX5_kinds 10 = .ok (.ifCond .ne 8, 3) := by decide +kernel
theorem dX5_kinds_13 : decode cX5_kinds 13 = .ok (.bipush (-2), 2) := by decide +kernel
theorem dX5_kinds_15 : decode cX5_kinds 15 = .ok (.goto 12, 3) := by decide +kernel
theorem dX5_kinds_18 : decode cX5_kinds 18 = .ok (.aload_n 0, 1) := by decide +kernel
theorem dX5_kinds_19 : decode cX5_kinds 19 = .ok (.getfield 31, 3) := by decide +kernel
theorem dX5_kinds_22 : decode cX5_kinds 22 = .ok (.iload_n 1, 1) := by decide +kernel
theorem dX5_kinds_23 : decode cX5_kinds 23 = .ok (.iload_n 2, 1) := by decide +kernel
theorem dX5_kinds_24 : decode cX5_kinds 24 = .ok (.invokevirtual 223, 3) := by decide +kernel
theorem dX5_kinds_27 : decode cX5_kinds 27 = .ok (.ireturn, 1) := by decide +kernel
theorem dX5_curves_0 : decode cX5_curves 0 = .ok (.aload_n 0, 1) := by decide +kernel
theorem dX5_curves_1 : decode cX5_curves 1 = .ok (.getfield 15, 3) := by decide +kernel
theorem dX5_curves_4 : decode cX5_curves 4 = .ok (.ireturn, 1) := by decide +kernel
theorem dX5_drop_0 : decode cX5_drop 0 = .ok (.aload_n 0, 1) := by decide +kernel
theorem dX5_drop_1 : decode cX5_drop 1 = .ok (.getfield 15, 3) := by decide +kernel
theorem dX5_drop_4 : decode cX5_drop 4 = .ok (.iconst 1, 1) := by decide +kernel
theorem dX5_drop_5 : decode cX5_drop 5 = .ok (.if_icmp .ge 5, 3) := by decide +kernel
theorem dX5_drop_8 : decode cX5_drop 8 = .ok (.iconst (-1), 1) := by decide +kernel
theorem dX5_drop_9 : decode cX5_drop 9 = .ok (.ireturn, 1) := by decide +kernel
theorem dX5_at_0 : decode cX5_at 0 = .ok (.iload_n 1, 1) := by decide +kernel
theorem dX5_at_1 : decode cX5_at 1 = .ok (.ifCond .lt 29, 3) := by decide +kernel
theorem dX5_at_4 : decode cX5_at 4 = .ok (.iload_n 1, 1) := by decide +kernel
theorem dX5_at_5 : decode cX5_at 5 = .ok (.aload_n 0, 1) := by decide +kernel
theorem dX5_at_6 : decode cX5_at 6 = .ok (.getfield 15, 3) := by decide +kernel
theorem dX5_at_9 : decode cX5_at 9 = .ok (.if_icmp .ge 21, 3) := by decide +kernel
theorem dX5_at_12 : decode cX5_at 12 = .ok (.iload_n 1, 1) := by decide +kernel
theorem dX5_at_13 : decode cX5_at 13 = .ok (.aload_n 0, 1) := by decide +kernel
theorem dX5_at_14 : decode cX5_at 14 = .ok (.getfield 11, 3) := by decide +kernel
theorem dX5_at_17 : decode cX5_at 17 = .ok (.arraylength, 1) := by decide +kernel
theorem dX5_at_18 : decode cX5_at 18 = .ok (.if_icmp .ge 12, 3) := by decide +kernel
theorem dX5_at_21 : decode cX5_at 21 = .ok (.aload_n 0, 1) := by decide +kernel
theorem dX5_at_22 : decode cX5_at 22 = .ok (.getfield 11, 3) := by decide +kernel
theorem dX5_at_25 : decode cX5_at 25 = .ok (.iload_n 1, 1) := by decide +kernel
theorem dX5_at_26 : decode cX5_at 26 = .ok (.aaload, 1) := by decide +kernel
theorem dX5_at_27 : decode cX5_at 27 = .ok (.goto 4, 3) := by decide +kernel
theorem dX5_at_30 : decode cX5_at 30 = .ok (.aconst_null, 1) := by decide +kernel
theorem dX5_at_31 : decode cX5_at 31 = .ok (.areturn, 1) := by decide +kernel
theorem dX5_madeByKernel_0 : decode cX5_madeByKernel 0 = .ok (.aload_n 0, 1) := by decide +kernel
theorem dX5_madeByKernel_1 : decode cX5_madeByKernel 1 = .ok (.iload_n 1, 1) := by decide +kernel
theorem dX5_madeByKernel_2 : decode cX5_madeByKernel 2 = .ok (.invokevirtual 56, 3) := by decide +kernel
theorem dX5_madeByKernel_5 : decode cX5_madeByKernel 5 = .ok (.astore_n 2, 1) := by decide +kernel
theorem dX5_madeByKernel_6 : decode cX5_madeByKernel 6 = .ok (.aload_n 2, 1) := by decide +kernel
theorem dX5_madeByKernel_7 : decode cX5_madeByKernel 7 = .ok (.ifnull 10, 3) := by decide +kernel
theorem dX5_madeByKernel_17 : decode cX5_madeByKernel 17 = .ok (.aconst_null, 1) := by decide +kernel
theorem dX5_madeByKernel_18 : decode cX5_madeByKernel 18 = .ok (.goto 4, 3) := by decide +kernel
theorem dX5_madeByKernel_22 : decode cX5_madeByKernel 22 = .ok (.areturn, 1) := by decide +kernel
theorem dX5_keep_0 : decode cX5_keep 0 = .ok (.aload_n 0, 1) := by decide +kernel
theorem dX5_keep_1 : decode cX5_keep 1 = .ok (.getfield 15, 3) := by decide +kernel
theorem dX5_keep_4 : decode cX5_keep 4 = .ok (.aload_n 0, 1) := by decide +kernel
theorem dX5_keep_5 : decode cX5_keep 5 = .ok (.getfield 11, 3) := by decide +kernel
theorem dX5_keep_8 : decode cX5_keep 8 = .ok (.arraylength, 1) := by decide +kernel
theorem dX5_keep_9 : decode cX5_keep 9 = .ok (.if_icmp .lt 6, 3) := by decide +kernel
theorem dX5_keep_12 : decode cX5_keep 12 = .ok (.bipush (-4), 2) := by decide +kernel
theorem dX5_keep_14 : decode cX5_keep 14 = .ok (.ireturn, 1) := by decide +kernel
theorem dX5_keep_15 : decode cX5_keep 15 = .ok (.aload_n 0, 1) := by decide +kernel
theorem dX5_keep_16 : decode cX5_keep 16 = .ok (.getfield 11, 3) := by decide +kernel
theorem dX5_keep_19 : decode cX5_keep 19 = .ok (.aload_n 0, 1) := by decide +kernel
theorem dX5_keep_20 : decode cX5_keep 20 = .ok (.getfield 15, 3) := by decide +kernel
theorem dX5_keep_23 : decode cX5_keep 23 = .ok (.aload_n 1, 1) := by decide +kernel
theorem dX5_keep_24 : decode cX5_keep 24 = .ok (.aastore, 1) := by decide +kernel
theorem dX5_keep_25 : decode cX5_keep 25 = .ok (.aload_n 0, 1) := by decide +kernel
theorem dX5_keep_26 : decode cX5_keep 26 = .ok (.dup, 1) := by decide +kernel
theorem dX5_keep_27 : decode cX5_keep 27 = .ok (.getfield 15, 3) := by decide +kernel
theorem dX5_keep_30 : decode cX5_keep 30 = .ok (.iconst 1, 1) := by decide +kernel
theorem dX5_keep_31 : decode cX5_keep 31 = .ok (.iadd, 1) := by decide +kernel
theorem dX5_keep_32 : decode cX5_keep 32 = .ok (.putfield 15, 3) := by decide +kernel
theorem dX5_keep_35 : decode cX5_keep 35 = .ok (.aload_n 0, 1) := by decide +kernel
theorem dX5_keep_36 : decode cX5_keep 36 = .ok (.getfield 15, 3) := by decide +kernel
theorem dX5_keep_39 : decode cX5_keep 39 = .ok (.iconst 1, 1) := by decide +kernel
theorem dX5_keep_40 : decode cX5_keep 40 = .ok (.isub, 1) := by decide +kernel
theorem dX5_keep_41 : decode cX5_keep 41 = .ok (.ireturn, 1) := by decide +kernel
theorem dX5_primeOrder_0 : decode cX5_primeOrder 0 = .ok (.aload_n 1, 1) := by decide +kernel
theorem dX5_primeOrder_1 : decode cX5_primeOrder 1 = .ok (.ifnull 11, 3) := by decide +kernel
theorem dX5_primeOrder_12 : decode cX5_primeOrder 12 = .ok (.iconst 0, 1) := by decide +kernel
theorem dX5_primeOrder_13 : decode cX5_primeOrder 13 = .ok (.ireturn, 1) := by decide +kernel
theorem dX6_init_0 : decode cX6_init 0 = .ok (.aload_n 0, 1) := by decide +kernel
theorem dX6_init_1 : decode cX6_init 1 = .ok (.invokespecial 1, 3) := by decide +kernel
theorem dX6_init_4 : decode cX6_init 4 = .ok (.aload_n 0, 1) := by decide +kernel
theorem dX6_init_5 : decode cX6_init 5 = .ok (.sipush 10008, 3) := by decide +kernel
theorem dX6_init_8 : decode cX6_init 8 = .ok (.newarray .int, 2) := by decide +kernel
theorem dX6_init_10 : decode cX6_init 10 = .ok (.putfield 7, 3) := by decide +kernel
theorem dX6_init_13 : decode cX6_init 13 = .ok (.aload_n 0, 1) := by decide +kernel
theorem dX6_init_14 : decode cX6_init 14 = .ok (.sipush 10008, 3) := by decide +kernel
theorem dX6_init_17 : decode cX6_init 17 = .ok (.newarray .int, 2) := by decide +kernel
theorem dX6_init_19 : decode cX6_init 19 = .ok (.putfield 13, 3) := by decide +kernel
theorem dX6_init_22 : decode cX6_init 22 = .ok (.aload_n 0, 1) := by decide +kernel
theorem dX6_init_23 : decode cX6_init 23 = .ok (.sipush 10300, 3) := by decide +kernel
theorem dX6_init_26 : decode cX6_init 26 = .ok (.newarray .int, 2) := by decide +kernel
theorem dX6_init_28 : decode cX6_init 28 = .ok (.putfield 16, 3) := by decide +kernel
theorem dX6_init_31 : decode cX6_init 31 = .ok (.aload_n 0, 1) := by decide +kernel
theorem dX6_init_32 : decode cX6_init 32 = .ok (.sipush 10008, 3) := by decide +kernel
theorem dX6_init_35 : decode cX6_init 35 = .ok (.newarray .int, 2) := by decide +kernel
theorem dX6_init_37 : decode cX6_init 37 = .ok (.putfield 19, 3) := by decide +kernel
theorem dX6_init_40 : decode cX6_init 40 = .ok (.aload_n 0, 1) := by decide +kernel
theorem dX6_init_41 : decode cX6_init 41 = .ok (.bipush 24, 2) := by decide +kernel
theorem dX6_init_43 : decode cX6_init 43 = .ok (.newarray .int, 2) := by decide +kernel
theorem dX6_init_45 : decode cX6_init 45 = .ok (.putfield 22, 3) := by decide +kernel
theorem dX6_init_48 : decode cX6_init 48 = .ok (.aload_n 0, 1) := by decide +kernel
theorem dX6_init_49 : decode cX6_init 49 = .ok (.bipush 24, 2) := by decide +kernel
theorem dX6_init_51 : decode cX6_init 51 = .ok (.newarray .int, 2) := by decide +kernel
theorem dX6_init_53 : decode cX6_init 53 = .ok (.putfield 25, 3) := by decide +kernel
theorem dX6_init_56 : decode cX6_init 56 = .ok (.aload_n 0, 1) := by decide +kernel
theorem dX6_init_57 : decode cX6_init 57 = .ok (.bipush 24, 2) := by decide +kernel
theorem dX6_init_59 : decode cX6_init 59 = .ok (.newarray .int, 2) := by decide +kernel
theorem dX6_init_61 : decode cX6_init 61 = .ok (.putfield 28, 3) := by decide +kernel
theorem dX6_init_64 : decode cX6_init 64 = .ok (.aload_n 0, 1) := by decide +kernel
theorem dX6_init_65 : decode cX6_init 65 = .ok (.bipush 24, 2) := by decide +kernel
theorem dX6_init_67 : decode cX6_init 67 = .ok (.newarray .int, 2) := by decide +kernel
theorem dX6_init_69 : decode cX6_init 69 = .ok (.putfield 31, 3) := by decide +kernel
theorem dX6_init_72 : decode cX6_init 72 = .ok (.aload_n 0, 1) := by decide +kernel
theorem dX6_init_73 : decode cX6_init 73 = .ok (.bipush 24, 2) := by decide +kernel
theorem dX6_init_75 : decode cX6_init 75 = .ok (.newarray .int, 2) := by decide +kernel
theorem dX6_init_77 : decode cX6_init 77 = .ok (.putfield 34, 3) := by decide +kernel
theorem dX6_init_80 : decode cX6_init 80 = .ok (.aload_n 0, 1) := by decide +kernel
theorem dX6_init_81 : decode cX6_init 81 = .ok (.bipush 24, 2) := by decide +kernel
theorem dX6_init_83 : decode cX6_init 83 = .ok (.newarray .int, 2) := by decide +kernel
theorem dX6_init_85 : decode cX6_init 85 = .ok (.putfield 37, 3) := by decide +kernel
theorem dX6_init_88 : decode cX6_init 88 = .ok (.aload_n 0, 1) := by decide +kernel
theorem dX6_init_89 : decode cX6_init 89 = .ok (.sipush 10300, 3) := by decide +kernel
theorem dX6_init_92 : decode cX6_init 92 = .ok (.newarray .boolean, 2) := by decide +kernel
theorem dX6_init_94 : decode cX6_init 94 = .ok (.putfield 40, 3) := by decide +kernel
theorem dX6_init_97 : decode cX6_init 97 = .ok (.aload_n 0, 1) := by decide +kernel
theorem dX6_init_98 : decode cX6_init 98 = .ok (.bipush 64, 2) := by decide +kernel
theorem dX6_init_100 : decode cX6_init 100 = .ok (.newarray .boolean, 2) := by decide +kernel
theorem dX6_init_102 : decode cX6_init 102 = .ok (.putfield 44, 3) := by decide +kernel
theorem dX6_init_105 : decode cX6_init 105 = .ok (.return_, 1) := by decide +kernel
theorem dX6_in_0 : decode cX6_in 0 = .ok (.lload_n 0, 1) := by decide +kernel
theorem dX6_in_1 : decode cX6_in 1 = .ok (.lload_n 2, 1) := by decide +kernel
theorem dX6_in_2 : decode cX6_in 2 = .ok (.lcmp, 1) := by decide +kernel
theorem dX6_in_3 : decode cX6_in 3 = .ok (.ifCond .lt 14, 3) := by decide +kernel
theorem dX6_in_6 : decode cX6_in 6 = .ok (.lload_n 0, 1) := by decide +kernel
theorem dX6_in_7 : decode cX6_in 7 = .ok (.lload 4, 2) := by decide +kernel
theorem dX6_in_9 : decode cX6_in 9 = .ok (.lcmp, 1) := by decide +kernel
theorem dX6_in_10 : decode cX6_in 10 = .ok (.ifCond .gt 7, 3) := by decide +kernel
theorem dX6_in_13 : decode cX6_in 13 = .ok (.iconst 1, 1) := by decide +kernel
theorem dX6_in_14 : decode cX6_in 14 = .ok (.goto 4, 3) := by decide +kernel
theorem dX6_in_17 : decode cX6_in 17 = .ok (.iconst 0, 1) := by decide +kernel
theorem dX6_in_18 : decode cX6_in 18 = .ok (.ireturn, 1) := by decide +kernel
theorem dX6_isPrime_0 : decode cX6_isPrime 0 = .ok (.iload_n 0, 1) := by decide +kernel
theorem dX6_isPrime_1 : decode cX6_isPrime 1 = .ok (.iconst 1, 1) := by decide +kernel
theorem dX6_isPrime_2 : decode cX6_isPrime 2 = .ok (.if_icmp .le 7, 3) := by decide +kernel
theorem dX6_isPrime_5 : decode cX6_isPrime 5 = .ok (.iconst 1, 1) := by decide +kernel
theorem dX6_isPrime_6 : decode cX6_isPrime 6 = .ok (.goto 4, 3) := by decide +kernel
theorem dX6_isPrime_9 : decode cX6_isPrime 9 = .ok (.iconst 0, 1) := by decide +kernel
theorem dX6_isPrime_10 : decode cX6_isPrime 10 = .ok (.istore_n 1, 1) := by decide +kernel
theorem dX6_isPrime_11 : decode cX6_isPrime 11 = .ok (.iconst 2, 1) := by decide +kernel
theorem dX6_isPrime_12 : decode cX6_isPrime 12 = .ok (.istore_n 2, 1) := by decide +kernel
theorem dX6_isPrime_13 : decode cX6_isPrime 13 = .ok (.iload_n 2, 1) := by decide +kernel
theorem dX6_isPrime_14 : decode cX6_isPrime 14 = .ok (.iload_n 2, 1) := by decide +kernel
theorem dX6_isPrime_15 : decode cX6_isPrime 15 = .ok (.imul, 1) := by decide +kernel
theorem dX6_isPrime_16 : decode cX6_isPrime 16 = .ok (.iload_n 0, 1) := by decide +kernel
theorem dX6_isPrime_17 : decode cX6_isPrime 17 = .ok (.if_icmp .gt 25, 3) := by decide +kernel
theorem dX6_isPrime_20 : decode cX6_isPrime 20 = .ok (.iload_n 1, 1) := by decide +kernel
theorem dX6_isPrime_21 : decode cX6_isPrime 21 = .ok (.ifCond .eq 21, 3) := by decide +kernel
theorem dX6_isPrime_24 : decode cX6_isPrime 24 = .ok (.iload_n 0, 1) := by decide +kernel
theorem dX6_isPrime_25 : decode cX6_isPrime 25 = .ok (.iload_n 2, 1) := by decide +kernel
theorem dX6_isPrime_26 : decode cX6_isPrime 26 = .ok (.irem, 1) := by decide +kernel
theorem dX6_isPrime_27 : decode cX6_isPrime 27 = .ok (.ifCond .eq 7, 3) := by decide +kernel
theorem dX6_isPrime_30 : decode cX6_isPrime 30 = .ok (.iconst 1, 1) := by decide +kernel
theorem dX6_isPrime_31 : decode cX6_isPrime 31 = .ok (.goto 4, 3) := by decide +kernel
theorem dX6_isPrime_34 : decode cX6_isPrime 34 = .ok (.iconst 0, 1) := by decide +kernel
theorem dX6_isPrime_35 : decode cX6_isPrime 35 = .ok (.istore_n 1, 1) := by decide +kernel
theorem dX6_isPrime_36 : decode cX6_isPrime 36 = .ok (.iinc 2 1, 3) := by decide +kernel
theorem dX6_isPrime_39 : decode cX6_isPrime 39 = .ok (.goto (-26), 3) := by decide +kernel
theorem dX6_isPrime_42 : decode cX6_isPrime 42 = .ok (.iload_n 1, 1) := by decide +kernel
theorem dX6_isPrime_43 : decode cX6_isPrime 43 = .ok (.ireturn, 1) := by decide +kernel
theorem dX6_takePrime_0 : decode cX6_takePrime 0 = .ok (.aload_n 0, 1) := by decide +kernel
theorem dX6_takePrime_1 : decode cX6_takePrime 1 = .ok (.iload_n 1, 1) := by decide +kernel
theorem dX6_takePrime_2 : decode cX6_takePrime 2 = .ok (.putfield 47, 3) := by decide +kernel
theorem dX6_takePrime_5 : decode cX6_takePrime 5 = .ok (.aload_n 0, 1) := by decide +kernel
theorem dX6_takePrime_6 : decode cX6_takePrime 6 = .ok (.getfield 51, 3) := by decide +kernel
theorem dX6_takePrime_9 : decode cX6_takePrime 9 = .ok (.iload_n 1, 1) := by decide +kernel
theorem dX6_takePrime_10 : decode cX6_takePrime 10 = .ok (.if_icmp .ne 4, 3) := by decide +kernel
theorem dX6_takePrime_13 : decode cX6_takePrime 13 = .ok (.return_, 1) := by decide +kernel
theorem dX6_takePrime_14 : decode cX6_takePrime 14 = .ok (.aload_n 0, 1) := by decide +kernel
theorem dX6_takePrime_15 : decode cX6_takePrime 15 = .ok (.iload_n 1, 1) := by decide +kernel
theorem dX6_takePrime_16 : decode cX6_takePrime 16 = .ok (.putfield 51, 3) := by decide +kernel
theorem dX6_takePrime_19 : decode cX6_takePrime 19 = .ok (.aload_n 0, 1) := by decide +kernel
theorem dX6_takePrime_20 : decode cX6_takePrime 20 = .ok (.iconst 0, 1) := by decide +kernel
theorem dX6_takePrime_21 : decode cX6_takePrime 21 = .ok (.putfield 54, 3) := by decide +kernel
theorem dX6_takePrime_24 : decode cX6_takePrime 24 = .ok (.aload_n 0, 1) := by decide +kernel
theorem dX6_takePrime_25 : decode cX6_takePrime 25 = .ok (.getfield 7, 3) := by decide +kernel
theorem dX6_takePrime_28 : decode cX6_takePrime 28 = .ok (.iconst 0, 1) := by decide +kernel
theorem dX6_takePrime_29 : decode cX6_takePrime 29 = .ok (.iconst 0, 1) := by decide +kernel
theorem dX6_takePrime_30 : decode cX6_takePrime 30 = .ok (.iastore, 1) := by decide +kernel
theorem dX6_takePrime_31 : decode cX6_takePrime 31 = .ok (.aload_n 0, 1) := by decide +kernel
theorem dX6_takePrime_32 : decode cX6_takePrime 32 = .ok (.getfield 7, 3) := by decide +kernel
theorem dX6_takePrime_35 : decode cX6_takePrime 35 = .ok (.iconst 1, 1) := by decide +kernel
theorem dX6_takePrime_36 : decode cX6_takePrime 36 = .ok (.iconst 1, 1) := by decide +kernel
theorem dX6_takePrime_37 : decode cX6_takePrime 37 = .ok (.iastore, 1) := by decide +kernel
theorem dX6_takePrime_38 : decode cX6_takePrime 38 = .ok (.iconst 2, 1) := by decide +kernel
theorem dX6_takePrime_39 : decode cX6_takePrime 39 = .ok (.istore_n 2, 1) := by decide +kernel
theorem dX6_takePrime_40 : decode cX6_takePrime 40 = .ok (.iload_n 2, 1) := by decide +kernel
theorem dX6_takePrime_41 : decode cX6_takePrime 41 = .ok (.iload_n 1, 1) := by decide +kernel
theorem dX6_takePrime_42 : decode cX6_takePrime 42 = .ok (.if_icmp .ge 39, 3) := by decide +kernel
theorem dX6_takePrime_45 : decode cX6_takePrime 45 = .ok (.aload_n 0, 1) := by decide +kernel
theorem dX6_takePrime_46 : decode cX6_takePrime 46 = .ok (.getfield 7, 3) := by decide +kernel
theorem dX6_takePrime_49 : decode cX6_takePrime 49 = .ok (.iload_n 2, 1) := by decide +kernel
theorem dX6_takePrime_50 : decode cX6_takePrime 50 = .ok (.iload_n 1, 1) := by decide +kernel
theorem dX6_takePrime_51 : decode cX6_takePrime 51 = .ok (.i2l, 1) := by decide +kernel
theorem dX6_takePrime_52 : decode cX6_takePrime 52 = .ok (.iload_n 1, 1) := by decide +kernel
theorem dX6_takePrime_53 : decode cX6_takePrime 53 = .ok (.iload_n 2, 1) := by decide +kernel
theorem dX6_takePrime_54 : decode cX6_takePrime 54 = .ok (.idiv, 1) := by decide +kernel
theorem dX6_takePrime_55 : decode cX6_takePrime 55 = .ok (.i2l, 1) := by decide +kernel
theorem dX6_takePrime_56 : decode cX6_takePrime 56 = .ok (.aload_n 0, 1) := by decide +kernel
theorem dX6_takePrime_57 : decode cX6_takePrime 57 = .ok (.getfield 7, 3) := by decide +kernel
theorem dX6_takePrime_60 : decode cX6_takePrime 60 = .ok (.iload_n 1, 1) := by decide +kernel
theorem dX6_takePrime_61 : decode cX6_takePrime 61 = .ok (.iload_n 2, 1) := by decide +kernel
theorem dX6_takePrime_62 : decode cX6_takePrime 62 = .ok (.irem, 1) := by decide +kernel
theorem dX6_takePrime_63 : decode cX6_takePrime 63 = .ok (.iaload, 1) := by decide +kernel
theorem dX6_takePrime_64 : decode cX6_takePrime 64 = .ok (.i2l, 1) := by decide +kernel
theorem dX6_takePrime_65 : decode cX6_takePrime 65 = .ok (.lmul, 1) := by decide +kernel
theorem dX6_takePrime_66 : decode cX6_takePrime 66 = .ok (.iload_n 1, 1) := by decide +kernel
theorem dX6_takePrime_67 : decode cX6_takePrime 67 = .ok (.i2l, 1) := by decide +kernel
theorem dX6_takePrime_68 : decode cX6_takePrime 68 = .ok (.lrem, 1) := by decide +kernel
theorem dX6_takePrime_69 : decode cX6_takePrime 69 = .ok (.lsub, 1) := by decide +kernel
theorem dX6_takePrime_70 : decode cX6_takePrime 70 = .ok (.iload_n 1, 1) := by decide +kernel
theorem dX6_takePrime_71 : decode cX6_takePrime 71 = .ok (.i2l, 1) := by decide +kernel
theorem dX6_takePrime_72 : decode cX6_takePrime 72 = .ok (.lrem, 1) := by decide +kernel
theorem dX6_takePrime_73 : decode cX6_takePrime 73 = .ok (.l2i, 1) := by decide +kernel
theorem dX6_takePrime_74 : decode cX6_takePrime 74 = .ok (.iastore, 1) := by decide +kernel
theorem dX6_takePrime_75 : decode cX6_takePrime 75 = .ok (.iinc 2 1, 3) := by decide +kernel
theorem dX6_takePrime_78 : decode cX6_takePrime 78 = .ok (.goto (-38), 3) := by decide +kernel
theorem dX6_takePrime_81 : decode cX6_takePrime 81 = .ok (.iconst 0, 1) := by decide +kernel
theorem dX6_takePrime_82 : decode cX6_takePrime 82 = .ok (.istore_n 2, 1) := by decide +kernel
theorem dX6_takePrime_83 : decode cX6_takePrime 83 = .ok (.iload_n 2, 1) := by decide +kernel
theorem dX6_takePrime_84 : decode cX6_takePrime 84 = .ok (.iload_n 1, 1) := by decide +kernel
theorem dX6_takePrime_85 : decode cX6_takePrime 85 = .ok (.if_icmp .ge 16, 3) := by decide +kernel
theorem dX6_takePrime_88 : decode cX6_takePrime 88 = .ok (.aload_n 0, 1) := by decide +kernel
theorem dX6_takePrime_89 : decode cX6_takePrime 89 = .ok (.getfield 13, 3) := by decide +kernel
theorem dX6_takePrime_92 : decode cX6_takePrime 92 = .ok (.iload_n 2, 1) := by decide +kernel
theorem dX6_takePrime_93 : decode cX6_takePrime 93 = .ok (.iconst (-1), 1) := by decide +kernel
theorem dX6_takePrime_94 : decode cX6_takePrime 94 = .ok (.iastore, 1) := by decide +kernel
theorem dX6_takePrime_95 : decode cX6_takePrime 95 = .ok (.iinc 2 1, 3) := by decide +kernel
theorem dX6_takePrime_98 : decode cX6_takePrime 98 = .ok (.goto (-15), 3) := by decide +kernel
theorem dX6_takePrime_101 : decode cX6_takePrime 101 = .ok (.iload_n 1, 1) := by decide +kernel
theorem dX6_takePrime_102 : decode cX6_takePrime 102 = .ok (.iconst 1, 1) := by decide +kernel
theorem dX6_takePrime_103 : decode cX6_takePrime 103 = .ok (.isub, 1) := by decide +kernel
theorem dX6_takePrime_104 : decode cX6_takePrime 104 = .ok (.istore_n 2, 1) := by decide +kernel
theorem dX6_takePrime_105 : decode cX6_takePrime 105 = .ok (.iload_n 2, 1) := by decide +kernel
theorem dX6_takePrime_106 : decode cX6_takePrime 106 = .ok (.ifCond .lt 24, 3) := by decide +kernel
theorem dX6_takePrime_109 : decode cX6_takePrime 109 = .ok (.aload_n 0, 1) := by decide +kernel
theorem dX6_takePrime_110 : decode cX6_takePrime 110 = .ok (.getfield 13, 3) := by decide +kernel
theorem dX6_takePrime_113 : decode cX6_takePrime 113 = .ok (.iload_n 2, 1) := by decide +kernel
theorem dX6_takePrime_114 : decode cX6_takePrime 114 = .ok (.i2l, 1) := by decide +kernel
theorem dX6_takePrime_115 : decode cX6_takePrime 115 = .ok (.iload_n 2, 1) := by decide +kernel
theorem dX6_takePrime_116 : decode cX6_takePrime 116 = .ok (.i2l, 1) := by decide +kernel
theorem dX6_takePrime_117 : decode cX6_takePrime 117 = .ok (.lmul, 1) := by decide +kernel
theorem dX6_takePrime_118 : decode cX6_takePrime 118 = .ok (.iload_n 1, 1) := by decide +kernel
theorem dX6_takePrime_119 : decode cX6_takePrime 119 = .ok (.i2l, 1) := by decide +kernel
theorem dX6_takePrime_120 : decode cX6_takePrime 120 = .ok (.lrem, 1) := by decide +kernel
theorem dX6_takePrime_121 : decode cX6_takePrime 121 = .ok (.l2i, 1) := by decide +kernel
theorem dX6_takePrime_122 : decode cX6_takePrime 122 = .ok (.iload_n 2, 1) := by decide +kernel
theorem dX6_takePrime_123 : decode cX6_takePrime 123 = .ok (.iastore, 1) := by decide +kernel
theorem dX6_takePrime_124 : decode cX6_takePrime 124 = .ok (.iinc 2 (-1), 3) := by decide +kernel
theorem dX6_takePrime_127 : decode cX6_takePrime 127 = .ok (.goto (-22), 3) := by decide +kernel
theorem dX6_takePrime_130 : decode cX6_takePrime 130 = .ok (.return_, 1) := by decide +kernel
theorem dX6_mod_0 : decode cX6_mod 0 = .ok (.lload_n 1, 1) := by decide +kernel
theorem dX6_mod_1 : decode cX6_mod 1 = .ok (.aload_n 0, 1) := by decide +kernel
theorem dX6_mod_2 : decode cX6_mod 2 = .ok (.getfield 47, 3) := by decide +kernel
theorem dX6_mod_5 : decode cX6_mod 5 = .ok (.i2l, 1) := by decide +kernel
theorem dX6_mod_6 : decode cX6_mod 6 = .ok (.lrem, 1) := by decide +kernel
theorem dX6_mod_7 : decode cX6_mod 7 = .ok (.l2i, 1) := by decide +kernel
theorem dX6_mod_8 : decode cX6_mod 8 = .ok (.istore_n 3, 1) := by decide +kernel
theorem dX6_mod_9 : decode cX6_mod 9 = .ok (.iload_n 3, 1) := by decide +kernel
theorem dX6_mod_10 : decode cX6_mod 10 = .ok (.ifCond .ge 12, 3) := by decide +kernel
theorem dX6_mod_13 : decode cX6_mod 13 = .ok (.iload_n 3, 1) := by decide +kernel
theorem dX6_mod_14 : decode cX6_mod 14 = .ok (.aload_n 0, 1) := by decide +kernel
theorem dX6_mod_15 : decode cX6_mod 15 = .ok (.getfield 47, 3) := by decide +kernel
theorem dX6_mod_18 : decode cX6_mod 18 = .ok (.iadd, 1) := by decide +kernel
theorem dX6_mod_19 : decode cX6_mod 19 = .ok (.goto 4, 3) := by decide +kernel
theorem dX6_mod_22 : decode cX6_mod 22 = .ok (.iload_n 3, 1) := by decide +kernel
theorem dX6_mod_23 : decode cX6_mod 23 = .ok (.ireturn, 1) := by decide +kernel
theorem dX6_mul_0 : decode cX6_mul 0 = .ok (.iload_n 1, 1) := by decide +kernel
theorem dX6_mul_1 : decode cX6_mul 1 = .ok (.i2l, 1) := by decide +kernel
theorem dX6_mul_2 : decode cX6_mul 2 = .ok (.iload_n 2, 1) := by decide +kernel
theorem dX6_mul_3 : decode cX6_mul 3 = .ok (.i2l, 1) := by decide +kernel
theorem dX6_mul_4 : decode cX6_mul 4 = .ok (.lmul, 1) := by decide +kernel
theorem dX6_mul_5 : decode cX6_mul 5 = .ok (.aload_n 0, 1) := by decide +kernel
theorem dX6_mul_6 : decode cX6_mul 6 = .ok (.getfield 47, 3) := by decide +kernel
theorem dX6_mul_9 : decode cX6_mul 9 = .ok (.i2l, 1) := by decide +kernel
theorem dX6_mul_10 : decode cX6_mul 10 = .ok (.lrem, 1) := by decide +kernel
theorem dX6_mul_11 : decode cX6_mul 11 = .ok (.l2i, 1) := by decide +kernel
theorem dX6_mul_12 : decode cX6_mul 12 = .ok (.ireturn, 1) := by decide +kernel
set_option maxRecDepth 20000 in
theorem ggX6_right_X6_mul : GoodIn wsX6_right wsX6_mul := goodIn_r _ [7, 8, 13, 14, 15, 16, 17, 18, 19, 20, 21, 22, 23, 24, 25, 26, 27, 28, 29, 30] (by decide +kernel) (by decide +kernel)
set_option maxRecDepth 20000 in
theorem gX6_right_X6_mul : GoodIn wsX6_right (wsV RX6 57 RX6 yX6_mul wsX6_mul) := goodIn_app (goodIn_of _ (by decide +kernel)) ggX6_right_X6_mul
set_option maxRecDepth 20000 in
theorem ggX6_right_X6_mod : GoodIn wsX6_right wsX6_mod := goodIn_r _ [12, 8, 13, 14, 15, 16, 17, 18, 19, 20, 21, 22, 23, 24, 25, 26, 27, 28, 29, 30] (by decide +kernel) (by decide +kernel)
set_option maxRecDepth 20000 in
theorem gX6_right_X6_mod : GoodIn wsX6_right (wsV RX6 67 RX6 yX6_mod wsX6_mod) := goodIn_app (goodIn_of _ (by decide +kernel)) ggX6_right_X6_mod
theorem dX6_right_0 : decode cX6_right 0 = .ok (.aload_n 0, 1) := by decide +kernel
theorem dX6_right_1 : decode cX6_right 1 = .ok (.aload_n 0, 1) := by decide +kernel
theorem dX6_right_2 : decode cX6_right 2 = .ok (.aload_n 0, 1) := by decide +kernel
theorem dX6_right_3 : decode cX6_right 3 = .ok (.iload_n 1, 1) := by decide +kernel
theorem dX6_right_4 : decode cX6_right 4 = .ok (.iload_n 1, 1) := by decide +kernel
theorem dX6_right_5 : decode cX6_right 5 = .ok (.invokevirtual 57, 3) := by decide +kernel
theorem dX6_right_8 : decode cX6_right 8 = .ok (.iload_n 1, 1) := by decide +kernel
theorem dX6_right_9 : decode cX6_right 9 = .ok (.invokevirtual 57, 3) := by decide +kernel
theorem dX6_right_12 : decode cX6_right 12 = .ok (.i2l, 1) := by decide +kernel
theorem dX6_right_13 : decode cX6_right 13 = .ok (.aload_n 0, 1) := by decide +kernel
theorem dX6_right_14 : decode cX6_right 14 = .ok (.aload_n 0, 1) := by decide +kernel
theorem dX6_right_15 : decode cX6_right 15 = .ok (.getfield 61, 3) := by decide +kernel
theorem dX6_right_18 : decode cX6_right 18 = .ok (.iload_n 1, 1) := by decide +kernel
theorem dX6_right_19 : decode cX6_right 19 = .ok (.invokevirtual 57, 3) := by decide +kernel
theorem dX6_right_22 : decode cX6_right 22 = .ok (.i2l, 1) := by decide +kernel
theorem dX6_right_23 : decode cX6_right 23 = .ok (.ladd, 1) := by decide +kernel
theorem dX6_right_24 : decode cX6_right 24 = .ok (.aload_n 0, 1) := by decide +kernel
theorem dX6_right_25 : decode cX6_right 25 = .ok (.getfield 64, 3) := by decide +kernel
theorem dX6_right_28 : decode cX6_right 28 = .ok (.i2l, 1) := by decide +kernel
theorem dX6_right_29 : decode cX6_right 29 = .ok (.ladd, 1) := by decide +kernel
theorem dX6_right_30 : decode cX6_right 30 = .ok (.invokevirtual 67, 3) := by decide +kernel
theorem dX6_right_33 : decode cX6_right 33 = .ok (.ireturn, 1) := by decide +kernel
set_option maxRecDepth 20000 in
theorem ggX6_take_X6_takePrime : GoodIn wsX6_take wsX6_takePrime := goodIn_r _ [8, 9, 10, 3, 11, 12, 13, 14, 15, 16, 17, 18, 19, 20, 21, 22, 23, 24, 25, 26, 27, 28, 29, 30] (by decide +kernel) (by decide +kernel)
set_option maxRecDepth 20000 in
theorem gX6_take_X6_takePrime : GoodIn wsX6_take (wsV RX6 71 RX6 yX6_takePrime wsX6_takePrime) := goodIn_app (goodIn_of _ (by decide +kernel)) ggX6_take_X6_takePrime
theorem dX6_take_0 : decode cX6_take 0 = .ok (.aload_n 0, 1) := by decide +kernel
theorem dX6_take_1 : decode cX6_take 1 = .ok (.iload_n 1, 1) := by decide +kernel
theorem dX6_take_2 : decode cX6_take 2 = .ok (.invokevirtual 71, 3) := by decide +kernel
theorem dX6_take_5 : decode cX6_take 5 = .ok (.aload_n 0, 1) := by decide +kernel
theorem dX6_take_6 : decode cX6_take 6 = .ok (.getfield 61, 3) := by decide +kernel
theorem dX6_take_9 : decode cX6_take 9 = .ok (.iload_n 2, 1) := by decide +kernel
theorem dX6_take_10 : decode cX6_take 10 = .ok (.if_icmp .ne 11, 3) := by decide +kernel
theorem dX6_take_13 : decode cX6_take 13 = .ok (.aload_n 0, 1) := by decide +kernel
theorem dX6_take_14 : decode cX6_take 14 = .ok (.getfield 64, 3) := by decide +kernel
theorem dX6_take_17 : decode cX6_take 17 = .ok (.iload_n 3, 1) := by decide +kernel
theorem dX6_take_18 : decode cX6_take 18 = .ok (.if_icmp .eq 8, 3) := by decide +kernel
theorem dX6_take_21 : decode cX6_take 21 = .ok (.aload_n 0, 1) := by decide +kernel
theorem dX6_take_22 : decode cX6_take 22 = .ok (.iconst 0, 1) := by decide +kernel
theorem dX6_take_23 : decode cX6_take 23 = .ok (.putfield 54, 3) := by decide +kernel
theorem dX6_take_26 : decode cX6_take 26 = .ok (.aload_n 0, 1) := by decide +kernel
theorem dX6_take_27 : decode cX6_take 27 = .ok (.iload_n 2, 1) := by decide +kernel
theorem dX6_take_28 : decode cX6_take 28 = .ok (.putfield 61, 3) := by decide +kernel
theorem dX6_take_31 : decode cX6_take 31 = .ok (.aload_n 0, 1) := by decide +kernel
theorem dX6_take_32 : decode cX6_take 32 = .ok (.iload_n 3, 1) := by decide +kernel
theorem dX6_take_33 : decode cX6_take 33 = .ok (.putfield 64, 3) := by decide +kernel
theorem dX6_take_36 : decode cX6_take 36 = .ok (.return_, 1) := by decide +kernel
set_option maxRecDepth 20000 in
theorem ggX6_isWanted_X6_in : GoodIn wsX6_isWanted wsX6_in := goodIn_r _ [6] (by decide +kernel) (by decide +kernel)
set_option maxRecDepth 20000 in
theorem gX6_isWanted_X6_in : GoodIn wsX6_isWanted (va_wsS RX6 100 yX6_in wsX6_in) := goodIn_app (goodIn_of _ (by decide +kernel)) ggX6_isWanted_X6_in
set_option maxRecDepth 20000 in
theorem ggX6_isWanted_X6_isPrime : GoodIn wsX6_isWanted wsX6_isPrime := goodIn_r _ [9] (by decide +kernel) (by decide +kernel)
set_option maxRecDepth 20000 in
theorem gX6_isWanted_X6_isPrime : GoodIn wsX6_isWanted (va_wsS RX6 104 yX6_isPrime wsX6_isPrime) := goodIn_app (goodIn_of _ (by decide +kernel)) ggX6_isWanted_X6_isPrime
theorem dX6_isWanted_0 : decode cX6_isWanted 0 = .ok (.iload_n 0, 1) := by decide +kernel
theorem dX6_isWanted_1 : decode cX6_isWanted 1 = .ok (.i2l, 1) := by decide +kernel
theorem dX6_isWanted_2 : decode cX6_isWanted 2 = .ok (.ldc2_w 96, 3) := by decide +kernel
theorem dX6_isWanted_5 : decode cX6_isWanted 5 = .ok (.ldc2_w 98, 3) := by decide +kernel
theorem dX6_isWanted_8 : decode cX6_isWanted 8 = .ok (.invokestatic 100, 3) := by decide +kernel
theorem dX6_isWanted_11 : decode cX6_isWanted 11 = .ok (.ifCond .eq 14, 3) := by decide +kernel
theorem dX6_isWanted_14 : decode cX6_isWanted 14 = .ok (.iload_n 0, 1) := by decide +kernel
theorem dX6_isWanted_15 : decode cX6_isWanted 15 = .ok (.invokestatic 104, 3) := by decide +kernel
theorem dX6_isWanted_18 : decode cX6_isWanted 18 = .ok (.ifCond .eq 7, 3) := by decide +kernel
theorem dX6_isWanted_21 : decode cX6_isWanted 21 = .ok (.iconst 1, 1) := by decide +kernel
theorem dX6_isWanted_22 : decode cX6_isWanted 22 = .ok (.goto 4, 3) := by decide +kernel
theorem dX6_isWanted_25 : decode cX6_isWanted 25 = .ok (.iconst 0, 1) := by decide +kernel
theorem dX6_isWanted_26 : decode cX6_isWanted 26 = .ok (.ireturn, 1) := by decide +kernel
set_option maxRecDepth 20000 in
theorem ggX6_split_X6_mul : GoodIn wsX6_split wsX6_mul := goodIn_r _ [9, 10, 15, 16, 17, 18, 19, 20, 21, 22, 23, 24, 25, 26, 27, 28, 29, 30, 31, 32] (by decide +kernel) (by decide +kernel)
set_option maxRecDepth 20000 in
theorem gX6_split_X6_mul : GoodIn wsX6_split (wsV RX6 57 RX6 yX6_mul wsX6_mul) := goodIn_app (goodIn_of _ (by decide +kernel)) ggX6_split_X6_mul
set_option maxRecDepth 20000 in
theorem ggX6_split_X6_mod : GoodIn wsX6_split wsX6_mod := goodIn_r _ [14, 10, 15, 16, 17, 18, 19, 20, 21, 22, 23, 24, 25, 26, 27, 28, 29, 30, 31, 32] (by decide +kernel) (by decide +kernel)
set_option maxRecDepth 20000 in
theorem gX6_split_X6_mod : GoodIn wsX6_split (wsV RX6 67 RX6 yX6_mod wsX6_mod) := goodIn_app (goodIn_of _ (by decide +kernel)) ggX6_split_X6_mod
theorem dX6_split_0 : decode cX6_split 0 = .ok (.aload_n 0, 1) := by decide +kernel
theorem dX6_split_1 : decode cX6_split 1 = .ok (.ldc2_w 108, 3) := by decide +kernel
theorem dX6_split_4 : decode cX6_split 4 = .ok (.aload_n 0, 1) := by decide +kernel
theorem dX6_split_5 : decode cX6_split 5 = .ok (.aload_n 0, 1) := by decide +kernel
theorem dX6_split_6 : decode cX6_split 6 = .ok (.aload_n 0, 1) := by decide +kernel
theorem dX6_split_7 : decode cX6_split 7 = .ok (.getfield 61, 3) := by decide +kernel
theorem dX6_split_10 : decode cX6_split 10 = .ok (.aload_n 0, 1) := by decide +kernel
theorem dX6_split_11 : decode cX6_split 11 = .ok (.getfield 61, 3) := by decide +kernel
theorem dX6_split_14 : decode cX6_split 14 = .ok (.invokevirtual 57, 3) := by decide +kernel
theorem dX6_split_17 : decode cX6_split 17 = .ok (.aload_n 0, 1) := by decide +kernel
theorem dX6_split_18 : decode cX6_split 18 = .ok (.getfield 61, 3) := by decide +kernel
theorem dX6_split_21 : decode cX6_split 21 = .ok (.invokevirtual 57, 3) := by decide +kernel
theorem dX6_split_24 : decode cX6_split 24 = .ok (.i2l, 1) := by decide +kernel
theorem dX6_split_25 : decode cX6_split 25 = .ok (.lmul, 1) := by decide +kernel
theorem dX6_split_26 : decode cX6_split 26 = .ok (.ldc2_w 110, 3) := by decide +kernel
theorem dX6_split_29 : decode cX6_split 29 = .ok (.aload_n 0, 1) := by decide +kernel
theorem dX6_split_30 : decode cX6_split 30 = .ok (.aload_n 0, 1) := by decide +kernel
theorem dX6_split_31 : decode cX6_split 31 = .ok (.getfield 64, 3) := by decide +kernel
theorem dX6_split_34 : decode cX6_split 34 = .ok (.aload_n 0, 1) := by decide +kernel
theorem dX6_split_35 : decode cX6_split 35 = .ok (.getfield 64, 3) := by decide +kernel
theorem dX6_split_38 : decode cX6_split 38 = .ok (.invokevirtual 57, 3) := by decide +kernel
theorem dX6_split_41 : decode cX6_split 41 = .ok (.i2l, 1) := by decide +kernel
theorem dX6_split_42 : decode cX6_split 42 = .ok (.lmul, 1) := by decide +kernel
theorem dX6_split_43 : decode cX6_split 43 = .ok (.ladd, 1) := by decide +kernel
theorem dX6_split_44 : decode cX6_split 44 = .ok (.invokevirtual 67, 3) := by decide +kernel
theorem dX6_split_47 : decode cX6_split 47 = .ok (.ireturn, 1) := by decide +kernel
theorem dX6_make_0 : decode cX6_make 0 = .ok (.aload_n 0, 1) := by decide +kernel
theorem dX6_make_1 : decode cX6_make 1 = .ok (.getfield 22, 3) := by decide +kernel
theorem dX6_make_4 : decode cX6_make 4 = .ok (.aload_n 0, 1) := by decide +kernel
theorem dX6_make_5 : decode cX6_make 5 = .ok (.getfield 112, 3) := by decide +kernel
theorem dX6_make_8 : decode cX6_make 8 = .ok (.iload_n 1, 1) := by decide +kernel
theorem dX6_make_9 : decode cX6_make 9 = .ok (.iastore, 1) := by decide +kernel
theorem dX6_make_10 : decode cX6_make 10 = .ok (.aload_n 0, 1) := by decide +kernel
theorem dX6_make_11 : decode cX6_make 11 = .ok (.getfield 25, 3) := by decide +kernel
theorem dX6_make_14 : decode cX6_make 14 = .ok (.aload_n 0, 1) := by decide +kernel
theorem dX6_make_15 : decode cX6_make 15 = .ok (.getfield 112, 3) := by decide +kernel
theorem dX6_make_18 : decode cX6_make 18 = .ok (.iload_n 2, 1) := by decide +kernel
theorem dX6_make_19 : decode cX6_make 19 = .ok (.iastore, 1) := by decide +kernel
theorem dX6_make_20 : decode cX6_make 20 = .ok (.aload_n 0, 1) := by decide +kernel
theorem dX6_make_21 : decode cX6_make 21 = .ok (.getfield 28, 3) := by decide +kernel
theorem dX6_make_24 : decode cX6_make 24 = .ok (.aload_n 0, 1) := by decide +kernel
theorem dX6_make_25 : decode cX6_make 25 = .ok (.getfield 112, 3) := by decide +kernel
theorem dX6_make_28 : decode cX6_make 28 = .ok (.iload_n 3, 1) := by decide +kernel
theorem dX6_make_29 : decode cX6_make 29 = .ok (.iastore, 1) := by decide +kernel
theorem dX6_make_30 : decode cX6_make 30 = .ok (.aload_n 0, 1) := by decide +kernel
theorem dX6_make_31 : decode cX6_make 31 = .ok (.getfield 31, 3) := by decide +kernel
theorem dX6_make_34 : decode cX6_make 34 = .ok (.aload_n 0, 1) := by decide +kernel
theorem dX6_make_35 : decode cX6_make 35 = .ok (.getfield 112, 3) := by decide +kernel
theorem dX6_make_38 : decode cX6_make 38 = .ok (.iconst (-1), 1) := by decide +kernel
theorem dX6_make_39 : decode cX6_make 39 = .ok (.iastore, 1) := by decide +kernel
theorem dX6_make_40 : decode cX6_make 40 = .ok (.aload_n 0, 1) := by decide +kernel
theorem dX6_make_41 : decode cX6_make 41 = .ok (.dup, 1) := by decide +kernel
theorem dX6_make_42 : decode cX6_make 42 = .ok (.getfield 112, 3) := by decide +kernel
theorem dX6_make_45 : decode cX6_make 45 = .ok (.iconst 1, 1) := by decide +kernel
theorem dX6_make_46 : decode cX6_make 46 = .ok (.iadd, 1) := by decide +kernel
theorem dX6_make_47 : decode cX6_make 47 = .ok (.putfield 112, 3) := by decide +kernel
theorem dX6_make_50 : decode cX6_make 50 = .ok (.aload_n 0, 1) := by decide +kernel
theorem dX6_make_51 : decode cX6_make 51 = .ok (.getfield 112, 3) := by decide +kernel
theorem dX6_make_54 : decode cX6_make 54 = .ok (.iconst 1, 1) := by decide +kernel
theorem dX6_make_55 : decode cX6_make 55 = .ok (.isub, 1) := by decide +kernel
theorem dX6_make_56 : decode cX6_make 56 = .ok (.ireturn, 1) := by decide +kernel
set_option maxRecDepth 20000 in
theorem ggX6_curve_X6_isWanted : GoodIn wsX6_curve wsX6_isWanted := goodIn_r _ [5, 6, 7, 8, 9, 4, 10, 11, 12, 13] (by decide +kernel) (by decide +kernel)
set_option maxRecDepth 20000 in
theorem gX6_curve_X6_isWanted : GoodIn wsX6_curve (va_wsS RX6 115 yX6_isWanted wsX6_isWanted) := goodIn_app (goodIn_of _ (by decide +kernel)) ggX6_curve_X6_isWanted
set_option maxRecDepth 20000 in
theorem ggX6_curve_X6_in : GoodIn wsX6_curve wsX6_in := goodIn_r _ [10] (by decide +kernel) (by decide +kernel)
set_option maxRecDepth 20000 in
theorem gX6_curve_X6_in : GoodIn wsX6_curve (va_wsS RX6 100 yX6_in wsX6_in) := goodIn_app (goodIn_of _ (by decide +kernel)) ggX6_curve_X6_in
set_option maxRecDepth 20000 in
theorem ggX6_curve_X6_take : GoodIn wsX6_curve wsX6_take := goodIn_r _ [17, 18, 19, 20, 21, 22, 23, 4, 24, 25, 26, 27, 28, 51, 52, 53, 54, 55, 56, 57, 58, 59, 60, 61, 62, 63, 64, 65, 66, 67, 68] (by decide +kernel) (by decide +kernel)
set_option maxRecDepth 20000 in
theorem gX6_curve_X6_take : GoodIn wsX6_curve (wsV RX6 118 RX6 yX6_take wsX6_take) := goodIn_app (goodIn_of _ (by decide +kernel)) ggX6_curve_X6_take
set_option maxRecDepth 20000 in
theorem ggX6_curve_X6_split : GoodIn wsX6_curve wsX6_split := goodIn_r _ [32, 33, 18, 34, 19, 35, 36, 37, 4, 38, 25, 39, 40, 41, 42, 51, 52, 53, 54, 55, 56, 57, 58, 59, 60, 61, 62, 63, 64, 65, 66, 67, 68] (by decide +kernel) (by decide +kernel)
set_option maxRecDepth 20000 in
theorem gX6_curve_X6_split : GoodIn wsX6_curve (wsV RX6 122 RX6 yX6_split wsX6_split) := goodIn_app (goodIn_of _ (by decide +kernel)) ggX6_curve_X6_split
set_option maxRecDepth 20000 in
theorem ggX6_curve_X6_make : GoodIn wsX6_curve wsX6_make := goodIn_r _ [46, 47, 1, 48, 49, 50, 51, 52, 53, 54, 55, 56, 57, 58, 59, 60, 61, 62, 63, 64, 65, 66, 67, 68] (by decide +kernel) (by decide +kernel)
set_option maxRecDepth 20000 in
theorem gX6_curve_X6_make : GoodIn wsX6_curve (wsV RX6 126 RX6 yX6_make wsX6_make) := goodIn_app (goodIn_of _ (by decide +kernel)) ggX6_curve_X6_make
theorem dX6_curve_0 : decode cX6_curve 0 = .ok (.iload_n 1, 1) := by decide +kernel
theorem dX6_curve_1 : decode cX6_curve 1 = .ok (.invokestatic 115, 3) := by decide +kernel
theorem dX6_curve_4 : decode cX6_curve 4 = .ok (.ifCond .eq 29, 3) := by decide +kernel
theorem dX6_curve_7 : decode cX6_curve 7 = .ok (.iload_n 2, 1) := by decide +kernel
theorem dX6_curve_8 : decode cX6_curve 8 = .ok (.i2l, 1) := by decide +kernel
theorem dX6_curve_9 : decode cX6_curve 9 = .ok (.lconst 0, 1) := by decide +kernel
theorem dX6_curve_10 : decode cX6_curve 10 = .ok (.iload_n 1, 1) := by decide +kernel
theorem dX6_curve_11 : decode cX6_curve 11 = .ok (.iconst 1, 1) := by decide +kernel
theorem dX6_curve_12 : decode cX6_curve 12 = .ok (.isub, 1) := by decide +kernel
theorem dX6_curve_13 : decode cX6_curve 13 = .ok (.i2l, 1) := by decide +kernel
theorem dX6_curve_14 : decode cX6_curve 14 = .ok (.invokestatic 100, 3) := by decide +kernel
theorem dX6_curve_17 : decode cX6_curve 17 = .ok (.ifCond .eq 16, 3) := by decide +kernel
theorem dX6_curve_20 : decode cX6_curve 20 = .ok (.iload_n 3, 1) := by decide +kernel
theorem dX6_curve_21 : decode cX6_curve 21 = .ok (.i2l, 1) := by decide +kernel
theorem dX6_curve_22 : decode cX6_curve 22 = .ok (.lconst 0, 1) := by decide +kernel
theorem dX6_curve_23 : decode cX6_curve 23 = .ok (.iload_n 1, 1) := by decide +kernel
theorem dX6_curve_24 : decode cX6_curve 24 = .ok (.iconst 1, 1) := by decide +kernel
theorem dX6_curve_25 : decode cX6_curve 25 = .ok (.isub, 1) := by decide +kernel
theorem dX6_curve_26 : decode cX6_curve 26 = .ok (.i2l, 1) := by decide +kernel
theorem dX6_curve_27 : decode cX6_curve 27 = .ok (.invokestatic 100, 3) := by decide +kernel
theorem dX6_curve_30 : decode cX6_curve 30 = .ok (.ifCond .ne 6, 3) := by decide +kernel
theorem dX6_curve_33 : decode cX6_curve 33 = .ok (.bipush (-2), 2) := by decide +kernel
theorem dX6_curve_35 : decode cX6_curve 35 = .ok (.ireturn, 1) := by decide +kernel
theorem dX6_curve_36 : decode cX6_curve 36 = .ok (.aload_n 0, 1) := by decide +kernel
theorem dX6_curve_37 : decode cX6_curve 37 = .ok (.iload_n 1, 1) := by decide +kernel
theorem dX6_curve_38 : decode cX6_curve 38 = .ok (.iload_n 2, 1) := by decide +kernel
theorem dX6_curve_39 : decode cX6_curve 39 = .ok (.iload_n 3, 1) := by decide +kernel
theorem dX6_curve_40 : decode cX6_curve 40 = .ok (.invokevirtual 118, 3) := by decide +kernel
theorem dX6_curve_43 : decode cX6_curve 43 = .ok (.aload_n 0, 1) := by decide +kernel
theorem dX6_curve_44 : decode cX6_curve 44 = .ok (.invokevirtual 122, 3) := by decide +kernel
theorem dX6_curve_47 : decode cX6_curve 47 = .ok (.ifCond .ne 6, 3) := by decide +kernel
theorem dX6_curve_50 : decode cX6_curve 50 = .ok (.bipush (-3), 2) := by decide +kernel
theorem dX6_curve_52 : decode cX6_curve 52 = .ok (.ireturn, 1) := by decide +kernel
theorem dX6_curve_53 : decode cX6_curve 53 = .ok (.aload_n 0, 1) := by decide +kernel
theorem dX6_curve_54 : decode cX6_curve 54 = .ok (.getfield 112, 3) := by decide +kernel
theorem dX6_curve_57 : decode cX6_curve 57 = .ok (.bipush 24, 2) := by decide +kernel
theorem dX6_curve_59 : decode cX6_curve 59 = .ok (.if_icmp .ne 8, 3) := by decide +kernel
theorem dX6_curve_62 : decode cX6_curve 62 = .ok (.bipush (-4), 2) := by decide +kernel
theorem dX6_curve_64 : decode cX6_curve 64 = .ok (.goto 10, 3) := by decide +kernel
theorem dX6_curve_67 : decode cX6_curve 67 = .ok (.aload_n 0, 1) := by decide +kernel
theorem dX6_curve_68 : decode cX6_curve 68 = .ok (.iload_n 1, 1) := by decide +kernel
theorem dX6_curve_69 : decode cX6_curve 69 = .ok (.iload_n 2, 1) := by decide +kernel
theorem dX6_curve_70 : decode cX6_curve 70 = .ok (.iload_n 3, 1) := by decide +kernel
theorem dX6_curve_71 : decode cX6_curve 71 = .ok (.invokevirtual 126, 3) := by decide +kernel
theorem dX6_curve_74 : decode cX6_curve 74 = .ok (.ireturn, 1) := by decide +kernel
theorem dX6_has_0 : decode cX6_has 0 = .ok (.iload_n 1, 1) := by decide +kernel
theorem dX6_has_1 : decode cX6_has 1 = .ok (.i2l, 1) := by decide +kernel
theorem dX6_has_2 : decode cX6_has 2 = .ok (.lconst 0, 1) := by decide +kernel
theorem dX6_has_3 : decode cX6_has 3 = .ok (.aload_n 0, 1) := by decide +kernel
theorem dX6_has_4 : decode cX6_has 4 = .ok (.getfield 112, 3) := by decide +kernel
theorem dX6_has_7 : decode cX6_has 7 = .ok (.iconst 1, 1) := by decide +kernel
theorem dX6_has_8 : decode cX6_has 8 = .ok (.isub, 1) := by decide +kernel
theorem dX6_has_9 : decode cX6_has 9 = .ok (.i2l, 1) := by decide +kernel
theorem dX6_has_10 : decode cX6_has 10 = .ok (.invokestatic 100, 3) := by decide +kernel
theorem dX6_has_13 : decode cX6_has 13 = .ok (.ifCond .ne 5, 3) := by decide +kernel
theorem dX6_has_16 : decode cX6_has 16 = .ok (.iconst 0, 1) := by decide +kernel
theorem dX6_has_17 : decode cX6_has 17 = .ok (.ireturn, 1) := by decide +kernel
set_option maxRecDepth 20000 in
theorem ggX6_jOf_X6_mul : GoodIn wsX6_jOf wsX6_mul := goodIn_r _ [8, 9, 21, 22, 23, 24, 25, 26, 27, 28, 29, 30, 31, 32, 33, 34, 35, 36, 37, 38] (by decide +kernel) (by decide +kernel)
set_option maxRecDepth 20000 in
theorem gX6_jOf_X6_mul : GoodIn wsX6_jOf (wsV RX6 57 RX6 yX6_mul wsX6_mul) := goodIn_app (goodIn_of _ (by decide +kernel)) ggX6_jOf_X6_mul
set_option maxRecDepth 20000 in
theorem ggX6_jOf_X6_mod : GoodIn wsX6_jOf wsX6_mod := goodIn_r _ [13, 9, 21, 22, 23, 24, 25, 26, 27, 28, 29, 30, 31, 32, 33, 34, 35, 36, 37, 38] (by decide +kernel) (by decide +kernel)
set_option maxRecDepth 20000 in
theorem gX6_jOf_X6_mod : GoodIn wsX6_jOf (wsV RX6 67 RX6 yX6_mod wsX6_mod) := goodIn_app (goodIn_of _ (by decide +kernel)) ggX6_jOf_X6_mod
set_option maxRecDepth 20000 in
theorem ggX6_jOf_X6_split : GoodIn wsX6_jOf wsX6_split := goodIn_r _ [17, 18, 1, 19, 20, 4, 5, 6, 7, 8, 9, 10, 11, 12, 13, 21, 22, 23, 24, 25, 26, 27, 28, 29, 30, 31, 32, 33, 34, 35, 36, 37, 38] (by decide +kernel) (by decide +kernel)
set_option maxRecDepth 20000 in
theorem gX6_jOf_X6_split : GoodIn wsX6_jOf (wsV RX6 122 RX6 yX6_split wsX6_split) := goodIn_app (goodIn_of _ (by decide +kernel)) ggX6_jOf_X6_split
theorem dX6_jOf_0 : decode cX6_jOf 0 = .ok (.aload_n 0, 1) := by decide +kernel
theorem dX6_jOf_1 : decode cX6_jOf 1 = .ok (.iconst 4, 1) := by decide +kernel
theorem dX6_jOf_2 : decode cX6_jOf 2 = .ok (.aload_n 0, 1) := by decide +kernel
theorem dX6_jOf_3 : decode cX6_jOf 3 = .ok (.aload_n 0, 1) := by decide +kernel
theorem dX6_jOf_4 : decode cX6_jOf 4 = .ok (.aload_n 0, 1) := by decide +kernel
theorem dX6_jOf_5 : decode cX6_jOf 5 = .ok (.getfield 61, 3) := by decide +kernel
theorem dX6_jOf_8 : decode cX6_jOf 8 = .ok (.aload_n 0, 1) := by decide +kernel
theorem dX6_jOf_9 : decode cX6_jOf 9 = .ok (.getfield 61, 3) := by decide +kernel
theorem dX6_jOf_12 : decode cX6_jOf 12 = .ok (.invokevirtual 57, 3) := by decide +kernel
theorem dX6_jOf_15 : decode cX6_jOf 15 = .ok (.aload_n 0, 1) := by decide +kernel
theorem dX6_jOf_16 : decode cX6_jOf 16 = .ok (.getfield 61, 3) := by decide +kernel
theorem dX6_jOf_19 : decode cX6_jOf 19 = .ok (.invokevirtual 57, 3) := by decide +kernel
theorem dX6_jOf_22 : decode cX6_jOf 22 = .ok (.invokevirtual 57, 3) := by decide +kernel
theorem dX6_jOf_25 : decode cX6_jOf 25 = .ok (.istore_n 1, 1) := by decide +kernel
theorem dX6_jOf_26 : decode cX6_jOf 26 = .ok (.aload_n 0, 1) := by decide +kernel
theorem dX6_jOf_27 : decode cX6_jOf 27 = .ok (.aload_n 0, 1) := by decide +kernel
theorem dX6_jOf_28 : decode cX6_jOf 28 = .ok (.aload_n 0, 1) := by decide +kernel
theorem dX6_jOf_29 : decode cX6_jOf 29 = .ok (.ldc2_w 130, 3) := by decide +kernel
theorem dX6_jOf_32 : decode cX6_jOf 32 = .ok (.invokevirtual 67, 3) := by decide +kernel
theorem dX6_jOf_35 : decode cX6_jOf 35 = .ok (.iload_n 1, 1) := by decide +kernel
theorem dX6_jOf_36 : decode cX6_jOf 36 = .ok (.invokevirtual 57, 3) := by decide +kernel
theorem dX6_jOf_39 : decode cX6_jOf 39 = .ok (.aload_n 0, 1) := by decide +kernel
theorem dX6_jOf_40 : decode cX6_jOf 40 = .ok (.getfield 7, 3) := by decide +kernel
theorem dX6_jOf_43 : decode cX6_jOf 43 = .ok (.aload_n 0, 1) := by decide +kernel
theorem dX6_jOf_44 : decode cX6_jOf 44 = .ok (.invokevirtual 122, 3) := by decide +kernel
theorem dX6_jOf_47 : decode cX6_jOf 47 = .ok (.iaload, 1) := by decide +kernel
theorem dX6_jOf_48 : decode cX6_jOf 48 = .ok (.invokevirtual 57, 3) := by decide +kernel
theorem dX6_jOf_51 : decode cX6_jOf 51 = .ok (.ireturn, 1) := by decide +kernel
theorem dX6_told_0 : decode cX6_told 0 = .ok (.aload_n 0, 1) := by decide +kernel
theorem dX6_told_1 : decode cX6_told 1 = .ok (.iload_n 1, 1) := by decide +kernel
theorem dX6_told_2 : decode cX6_told 2 = .ok (.invokevirtual 132, 3) := by decide +kernel
theorem dX6_told_5 : decode cX6_told 5 = .ok (.ifCond .ne 6, 3) := by decide +kernel
theorem dX6_told_8 : decode cX6_told 8 = .ok (.bipush (-2), 2) := by decide +kernel
theorem dX6_told_10 : decode cX6_told 10 = .ok (.ireturn, 1) := by decide +kernel
theorem dX6_twist_0 : decode cX6_twist 0 = .ok (.aload_n 0, 1) := by decide +kernel
theorem dX6_twist_1 : decode cX6_twist 1 = .ok (.iload_n 1, 1) := by decide +kernel
theorem dX6_twist_2 : decode cX6_twist 2 = .ok (.invokevirtual 132, 3) := by decide +kernel
theorem dX6_twist_5 : decode cX6_twist 5 = .ok (.ifCond .ne 6, 3) := by decide +kernel
theorem dX6_twist_8 : decode cX6_twist 8 = .ok (.bipush (-2), 2) := by decide +kernel
theorem dX6_twist_10 : decode cX6_twist 10 = .ok (.ireturn, 1) := by decide +kernel
theorem dX6_map_0 : decode cX6_map 0 = .ok (.aload_n 0, 1) := by decide +kernel
theorem dX6_map_1 : decode cX6_map 1 = .ok (.iload_n 2, 1) := by decide +kernel
theorem dX6_map_2 : decode cX6_map 2 = .ok (.invokevirtual 132, 3) := by decide +kernel
theorem dX6_map_5 : decode cX6_map 5 = .ok (.ifCond .eq 11, 3) := by decide +kernel
theorem dX6_map_16 : decode cX6_map 16 = .ok (.bipush (-2), 2) := by decide +kernel
theorem dX6_map_18 : decode cX6_map 18 = .ok (.ireturn, 1) := by decide +kernel
theorem dX6_mapped_0 : decode cX6_mapped 0 = .ok (.aload_n 0, 1) := by decide +kernel
theorem dX6_mapped_1 : decode cX6_mapped 1 = .ok (.iload_n 1, 1) := by decide +kernel
theorem dX6_mapped_2 : decode cX6_mapped 2 = .ok (.invokevirtual 132, 3) := by decide +kernel
theorem dX6_mapped_5 : decode cX6_mapped 5 = .ok (.ifCond .eq 27, 3) := by decide +kernel
theorem dX6_mapped_32 : decode cX6_mapped 32 = .ok (.bipush (-2), 2) := by decide +kernel
theorem dX6_mapped_34 : decode cX6_mapped 34 = .ok (.ireturn, 1) := by decide +kernel
theorem dX6_root_0 : decode cX6_root 0 = .ok (.aload_n 0, 1) := by decide +kernel
theorem dX6_root_1 : decode cX6_root 1 = .ok (.iload_n 1, 1) := by decide +kernel
theorem dX6_root_2 : decode cX6_root 2 = .ok (.invokevirtual 132, 3) := by decide +kernel
theorem dX6_root_5 : decode cX6_root 5 = .ok (.ifCond .eq 17, 3) := by decide +kernel
theorem dX6_root_22 : decode cX6_root 22 = .ok (.bipush (-2), 2) := by decide +kernel
theorem dX6_root_24 : decode cX6_root 24 = .ok (.ireturn, 1) := by decide +kernel
theorem dX6_inverse_0 : decode cX6_inverse 0 = .ok (.aload_n 0, 1) := by decide +kernel
theorem dX6_inverse_1 : decode cX6_inverse 1 = .ok (.iload_n 1, 1) := by decide +kernel
theorem dX6_inverse_2 : decode cX6_inverse 2 = .ok (.invokevirtual 132, 3) := by decide +kernel
theorem dX6_inverse_5 : decode cX6_inverse 5 = .ok (.ifCond .ne 6, 3) := by decide +kernel
theorem dX6_inverse_8 : decode cX6_inverse 8 = .ok (.bipush (-2), 2) := by decide +kernel
theorem dX6_inverse_10 : decode cX6_inverse 10 = .ok (.ireturn, 1) := by decide +kernel
theorem dX6_power_0 : decode cX6_power 0 = .ok (.aload_n 0, 1) := by decide +kernel
theorem dX6_power_1 : decode cX6_power 1 = .ok (.iload_n 1, 1) := by decide +kernel
theorem dX6_power_2 : decode cX6_power 2 = .ok (.invokevirtual 132, 3) := by decide +kernel
theorem dX6_power_5 : decode cX6_power 5 = .ok (.ifCond .eq 23, 3) := by decide +kernel
theorem dX6_power_28 : decode cX6_power 28 = .ok (.bipush (-2), 2) := by decide +kernel
theorem dX6_power_30 : decode cX6_power 30 = .ok (.ireturn, 1) := by decide +kernel
theorem dX6_generator_0 : decode cX6_generator 0 = .ok (.aload_n 0, 1) := by decide +kernel
theorem dX6_generator_1 : decode cX6_generator 1 = .ok (.iload_n 1, 1) := by decide +kernel
theorem dX6_generator_2 : decode cX6_generator 2 = .ok (.invokevirtual 132, 3) := by decide +kernel
theorem dX6_generator_5 : decode cX6_generator 5 = .ok (.ifCond .ne 6, 3) := by decide +kernel
theorem dX6_generator_8 : decode cX6_generator 8 = .ok (.bipush (-2), 2) := by decide +kernel
theorem dX6_generator_10 : decode cX6_generator 10 = .ok (.ireturn, 1) := by decide +kernel
theorem dX6_point_0 : decode cX6_point 0 = .ok (.aload_n 0, 1) := by decide +kernel
theorem dX6_point_1 : decode cX6_point 1 = .ok (.iload_n 1, 1) := by decide +kernel
theorem dX6_point_2 : decode cX6_point 2 = .ok (.invokevirtual 132, 3) := by decide +kernel
theorem dX6_point_5 : decode cX6_point 5 = .ok (.ifCond .eq 35, 3) := by decide +kernel
theorem dX6_point_40 : decode cX6_point 40 = .ok (.bipush (-2), 2) := by decide +kernel
theorem dX6_point_42 : decode cX6_point 42 = .ok (.ireturn, 1) := by decide +kernel
theorem dX6_lift_0 : decode cX6_lift 0 = .ok (.aload_n 0, 1) := by decide +kernel
theorem dX6_lift_1 : decode cX6_lift 1 = .ok (.iload_n 1, 1) := by decide +kernel
theorem dX6_lift_2 : decode cX6_lift 2 = .ok (.invokevirtual 132, 3) := by decide +kernel
theorem dX6_lift_5 : decode cX6_lift 5 = .ok (.ifCond .eq 19, 3) := by decide +kernel
theorem dX6_lift_24 : decode cX6_lift 24 = .ok (.bipush (-2), 2) := by decide +kernel
theorem dX6_lift_26 : decode cX6_lift 26 = .ok (.ireturn, 1) := by decide +kernel
theorem dX6_near_0 : decode cX6_near 0 = .ok (.aload_n 0, 1) := by decide +kernel
theorem dX6_near_1 : decode cX6_near 1 = .ok (.iload_n 1, 1) := by decide +kernel
theorem dX6_near_2 : decode cX6_near 2 = .ok (.invokevirtual 132, 3) := by decide +kernel
theorem dX6_near_5 : decode cX6_near 5 = .ok (.ifCond .ne 6, 3) := by decide +kernel
theorem dX6_near_8 : decode cX6_near 8 = .ok (.bipush (-2), 2) := by decide +kernel
theorem dX6_near_10 : decode cX6_near 10 = .ok (.ireturn, 1) := by decide +kernel
theorem dX6_nth_0 : decode cX6_nth 0 = .ok (.aload_n 0, 1) := by decide +kernel
theorem dX6_nth_1 : decode cX6_nth 1 = .ok (.iload_n 1, 1) := by decide +kernel
theorem dX6_nth_2 : decode cX6_nth 2 = .ok (.invokevirtual 132, 3) := by decide +kernel
theorem dX6_nth_5 : decode cX6_nth 5 = .ok (.ifCond .ne 6, 3) := by decide +kernel
theorem dX6_nth_8 : decode cX6_nth 8 = .ok (.bipush (-2), 2) := by decide +kernel
theorem dX6_nth_10 : decode cX6_nth 10 = .ok (.ireturn, 1) := by decide +kernel
theorem dX6_rank_0 : decode cX6_rank 0 = .ok (.aload_n 0, 1) := by decide +kernel
theorem dX6_rank_1 : decode cX6_rank 1 = .ok (.iload_n 1, 1) := by decide +kernel
theorem dX6_rank_2 : decode cX6_rank 2 = .ok (.invokevirtual 132, 3) := by decide +kernel
theorem dX6_rank_5 : decode cX6_rank 5 = .ok (.ifCond .eq 11, 3) := by decide +kernel
theorem dX6_rank_16 : decode cX6_rank 16 = .ok (.bipush (-2), 2) := by decide +kernel
theorem dX6_rank_18 : decode cX6_rank 18 = .ok (.ireturn, 1) := by decide +kernel
theorem dX6_add_0 : decode cX6_add 0 = .ok (.aload_n 0, 1) := by decide +kernel
theorem dX6_add_1 : decode cX6_add 1 = .ok (.iload_n 1, 1) := by decide +kernel
theorem dX6_add_2 : decode cX6_add 2 = .ok (.invokevirtual 132, 3) := by decide +kernel
theorem dX6_add_5 : decode cX6_add 5 = .ok (.ifCond .eq 28, 3) := by decide +kernel
theorem dX6_add_33 : decode cX6_add 33 = .ok (.bipush (-2), 2) := by decide +kernel
theorem dX6_add_35 : decode cX6_add 35 = .ok (.ireturn, 1) := by decide +kernel
theorem dX6_negative_0 : decode cX6_negative 0 = .ok (.aload_n 0, 1) := by decide +kernel
theorem dX6_negative_1 : decode cX6_negative 1 = .ok (.iload_n 1, 1) := by decide +kernel
theorem dX6_negative_2 : decode cX6_negative 2 = .ok (.invokevirtual 132, 3) := by decide +kernel
theorem dX6_negative_5 : decode cX6_negative 5 = .ok (.ifCond .eq 19, 3) := by decide +kernel
theorem dX6_negative_24 : decode cX6_negative 24 = .ok (.bipush (-2), 2) := by decide +kernel
theorem dX6_negative_26 : decode cX6_negative 26 = .ok (.ireturn, 1) := by decide +kernel
theorem dX6_times_0 : decode cX6_times 0 = .ok (.aload_n 0, 1) := by decide +kernel
theorem dX6_times_1 : decode cX6_times 1 = .ok (.iload_n 1, 1) := by decide +kernel
theorem dX6_times_2 : decode cX6_times 2 = .ok (.invokevirtual 132, 3) := by decide +kernel
theorem dX6_times_5 : decode cX6_times 5 = .ok (.ifCond .eq 20, 3) := by decide +kernel
theorem dX6_times_25 : decode cX6_times 25 = .ok (.bipush (-2), 2) := by decide +kernel
theorem dX6_times_27 : decode cX6_times 27 = .ok (.ireturn, 1) := by decide +kernel
theorem dX6_alone_0 : decode cX6_alone 0 = .ok (.aload_n 0, 1) := by decide +kernel
theorem dX6_alone_1 : decode cX6_alone 1 = .ok (.iload_n 1, 1) := by decide +kernel
theorem dX6_alone_2 : decode cX6_alone 2 = .ok (.invokevirtual 132, 3) := by decide +kernel
theorem dX6_alone_5 : decode cX6_alone 5 = .ok (.ifCond .eq 19, 3) := by decide +kernel
theorem dX6_alone_24 : decode cX6_alone 24 = .ok (.bipush (-2), 2) := by decide +kernel
theorem dX6_alone_26 : decode cX6_alone 26 = .ok (.ireturn, 1) := by decide +kernel
theorem dX6_count_0 : decode cX6_count 0 = .ok (.aload_n 0, 1) := by decide +kernel
theorem dX6_count_1 : decode cX6_count 1 = .ok (.iload_n 1, 1) := by decide +kernel
theorem dX6_count_2 : decode cX6_count 2 = .ok (.invokevirtual 132, 3) := by decide +kernel
theorem dX6_count_5 : decode cX6_count 5 = .ok (.ifCond .ne 6, 3) := by decide +kernel
theorem dX6_count_8 : decode cX6_count 8 = .ok (.bipush (-2), 2) := by decide +kernel
theorem dX6_count_10 : decode cX6_count 10 = .ok (.ireturn, 1) := by decide +kernel
theorem dX6_countOver_0 : decode cX6_countOver 0 = .ok (.aload_n 0, 1) := by decide +kernel
theorem dX6_countOver_1 : decode cX6_countOver 1 = .ok (.iload_n 1, 1) := by decide +kernel
theorem dX6_countOver_2 : decode cX6_countOver 2 = .ok (.invokevirtual 132, 3) := by decide +kernel
theorem dX6_countOver_5 : decode cX6_countOver 5 = .ok (.ifCond .eq 15, 3) := by decide +kernel
theorem dX6_countOver_20 : decode cX6_countOver 20 = .ok (.ldc2_w 154, 3) := by decide +kernel
theorem dX6_countOver_23 : decode cX6_countOver 23 = .ok (.lreturn, 1) := by decide +kernel
theorem dX6_bound_0 : decode cX6_bound 0 = .ok (.aload_n 0, 1) := by decide +kernel
theorem dX6_bound_1 : decode cX6_bound 1 = .ok (.iload_n 1, 1) := by decide +kernel
theorem dX6_bound_2 : decode cX6_bound 2 = .ok (.invokevirtual 132, 3) := by decide +kernel
theorem dX6_bound_5 : decode cX6_bound 5 = .ok (.ifCond .eq 13, 3) := by decide +kernel
theorem dX6_bound_18 : decode cX6_bound 18 = .ok (.bipush (-2), 2) := by decide +kernel
theorem dX6_bound_20 : decode cX6_bound 20 = .ok (.ireturn, 1) := by decide +kernel
theorem dX6_proof_0 : decode cX6_proof 0 = .ok (.aload_n 0, 1) := by decide +kernel
theorem dX6_proof_1 : decode cX6_proof 1 = .ok (.iload_n 1, 1) := by decide +kernel
theorem dX6_proof_2 : decode cX6_proof 2 = .ok (.invokevirtual 132, 3) := by decide +kernel
theorem dX6_proof_5 : decode cX6_proof 5 = .ok (.ifCond .eq 13, 3) := by decide +kernel
theorem dX6_proof_18 : decode cX6_proof 18 = .ok (.bipush (-2), 2) := by decide +kernel
theorem dX6_proof_20 : decode cX6_proof 20 = .ok (.ireturn, 1) := by decide +kernel
theorem dX6_supersingular_0 : decode cX6_supersingular 0 = .ok (.aload_n 0, 1) := by decide +kernel
theorem dX6_supersingular_1 : decode cX6_supersingular 1 = .ok (.iload_n 1, 1) := by decide +kernel
theorem dX6_supersingular_2 : decode cX6_supersingular 2 = .ok (.invokevirtual 132, 3) := by decide +kernel
theorem dX6_supersingular_5 : decode cX6_supersingular 5 = .ok (.ifCond .ne 6, 3) := by decide +kernel
theorem dX6_supersingular_8 : decode cX6_supersingular 8 = .ok (.bipush (-2), 2) := by decide +kernel
theorem dX6_supersingular_10 : decode cX6_supersingular 10 = .ok (.ireturn, 1) := by decide +kernel
theorem dX6_order_0 : decode cX6_order 0 = .ok (.aload_n 0, 1) := by decide +kernel
theorem dX6_order_1 : decode cX6_order 1 = .ok (.iload_n 1, 1) := by decide +kernel
theorem dX6_order_2 : decode cX6_order 2 = .ok (.invokevirtual 132, 3) := by decide +kernel
theorem dX6_order_5 : decode cX6_order 5 = .ok (.ifCond .eq 19, 3) := by decide +kernel
theorem dX6_order_24 : decode cX6_order 24 = .ok (.bipush (-2), 2) := by decide +kernel
theorem dX6_order_26 : decode cX6_order 26 = .ok (.ireturn, 1) := by decide +kernel
theorem dX6_ofOrder_0 : decode cX6_ofOrder 0 = .ok (.aload_n 0, 1) := by decide +kernel
theorem dX6_ofOrder_1 : decode cX6_ofOrder 1 = .ok (.iload_n 1, 1) := by decide +kernel
theorem dX6_ofOrder_2 : decode cX6_ofOrder 2 = .ok (.invokevirtual 132, 3) := by decide +kernel
theorem dX6_ofOrder_5 : decode cX6_ofOrder 5 = .ok (.ifCond .eq 8, 3) := by decide +kernel
theorem dX6_ofOrder_13 : decode cX6_ofOrder 13 = .ok (.bipush (-2), 2) := by decide +kernel
theorem dX6_ofOrder_15 : decode cX6_ofOrder 15 = .ok (.ireturn, 1) := by decide +kernel
theorem dX6_torsion_0 : decode cX6_torsion 0 = .ok (.aload_n 0, 1) := by decide +kernel
theorem dX6_torsion_1 : decode cX6_torsion 1 = .ok (.iload_n 1, 1) := by decide +kernel
theorem dX6_torsion_2 : decode cX6_torsion 2 = .ok (.invokevirtual 132, 3) := by decide +kernel
theorem dX6_torsion_5 : decode cX6_torsion 5 = .ok (.ifCond .eq 8, 3) := by decide +kernel
theorem dX6_torsion_13 : decode cX6_torsion 13 = .ok (.bipush (-2), 2) := by decide +kernel
theorem dX6_torsion_15 : decode cX6_torsion 15 = .ok (.ireturn, 1) := by decide +kernel
theorem dX6_made_0 : decode cX6_made 0 = .ok (.aload_n 0, 1) := by decide +kernel
theorem dX6_made_1 : decode cX6_made 1 = .ok (.iload_n 1, 1) := by decide +kernel
theorem dX6_made_2 : decode cX6_made 2 = .ok (.invokevirtual 132, 3) := by decide +kernel
theorem dX6_made_5 : decode cX6_made 5 = .ok (.ifCond .eq 15, 3) := by decide +kernel
theorem dX6_made_20 : decode cX6_made 20 = .ok (.bipush (-2), 2) := by decide +kernel
theorem dX6_made_22 : decode cX6_made 22 = .ok (.ireturn, 1) := by decide +kernel
theorem dX6_halves_0 : decode cX6_halves 0 = .ok (.aload_n 0, 1) := by decide +kernel
theorem dX6_halves_1 : decode cX6_halves 1 = .ok (.iload_n 1, 1) := by decide +kernel
theorem dX6_halves_2 : decode cX6_halves 2 = .ok (.invokevirtual 132, 3) := by decide +kernel
theorem dX6_halves_5 : decode cX6_halves 5 = .ok (.ifCond .eq 11, 3) := by decide +kernel
theorem dX6_halves_16 : decode cX6_halves 16 = .ok (.bipush (-2), 2) := by decide +kernel
theorem dX6_halves_18 : decode cX6_halves 18 = .ok (.ireturn, 1) := by decide +kernel
theorem dX6_half_0 : decode cX6_half 0 = .ok (.aload_n 0, 1) := by decide +kernel
theorem dX6_half_1 : decode cX6_half 1 = .ok (.iload_n 1, 1) := by decide +kernel
theorem dX6_half_2 : decode cX6_half 2 = .ok (.invokevirtual 132, 3) := by decide +kernel
theorem dX6_half_5 : decode cX6_half 5 = .ok (.ifCond .eq 11, 3) := by decide +kernel
theorem dX6_half_16 : decode cX6_half 16 = .ok (.bipush (-2), 2) := by decide +kernel
theorem dX6_half_18 : decode cX6_half 18 = .ok (.ireturn, 1) := by decide +kernel
theorem dX6_log_0 : decode cX6_log 0 = .ok (.aload_n 0, 1) := by decide +kernel
theorem dX6_log_1 : decode cX6_log 1 = .ok (.iload_n 1, 1) := by decide +kernel
theorem dX6_log_2 : decode cX6_log 2 = .ok (.invokevirtual 132, 3) := by decide +kernel
theorem dX6_log_5 : decode cX6_log 5 = .ok (.ifCond .eq 19, 3) := by decide +kernel
theorem dX6_log_24 : decode cX6_log 24 = .ok (.bipush (-2), 2) := by decide +kernel
theorem dX6_log_26 : decode cX6_log 26 = .ok (.ireturn, 1) := by decide +kernel
theorem dX6_embedding_0 : decode cX6_embedding 0 = .ok (.aload_n 0, 1) := by decide +kernel
theorem dX6_embedding_1 : decode cX6_embedding 1 = .ok (.iload_n 1, 1) := by decide +kernel
theorem dX6_embedding_2 : decode cX6_embedding 2 = .ok (.invokevirtual 132, 3) := by decide +kernel
theorem dX6_embedding_5 : decode cX6_embedding 5 = .ok (.ifCond .eq 17, 3) := by decide +kernel
theorem dX6_embedding_22 : decode cX6_embedding 22 = .ok (.bipush (-2), 2) := by decide +kernel
theorem dX6_embedding_24 : decode cX6_embedding 24 = .ok (.ireturn, 1) := by decide +kernel
theorem dX6_quotient_0 : decode cX6_quotient 0 = .ok (.aload_n 0, 1) := by decide +kernel
theorem dX6_quotient_1 : decode cX6_quotient 1 = .ok (.iload_n 1, 1) := by decide +kernel
theorem dX6_quotient_2 : decode cX6_quotient 2 = .ok (.invokevirtual 132, 3) := by decide +kernel
theorem dX6_quotient_5 : decode cX6_quotient 5 = .ok (.ifCond .eq 11, 3) := by decide +kernel
theorem dX6_quotient_16 : decode cX6_quotient 16 = .ok (.bipush (-2), 2) := by decide +kernel
theorem dX6_quotient_18 : decode cX6_quotient 18 = .ok (.ireturn, 1) := by decide +kernel
theorem dX6_image_0 : decode cX6_image 0 = .ok (.iload_n 1, 1) := by decide +kernel
theorem dX6_image_1 : decode cX6_image 1 = .ok (.i2l, 1) := by decide +kernel
theorem dX6_image_2 : decode cX6_image 2 = .ok (.lconst 0, 1) := by decide +kernel
theorem dX6_image_3 : decode cX6_image 3 = .ok (.aload_n 0, 1) := by decide +kernel
theorem dX6_image_4 : decode cX6_image 4 = .ok (.getfield 112, 3) := by decide +kernel
theorem dX6_image_7 : decode cX6_image 7 = .ok (.iconst 1, 1) := by decide +kernel
theorem dX6_image_8 : decode cX6_image 8 = .ok (.isub, 1) := by decide +kernel
theorem dX6_image_9 : decode cX6_image 9 = .ok (.i2l, 1) := by decide +kernel
theorem dX6_image_10 : decode cX6_image 10 = .ok (.invokestatic 100, 3) := by decide +kernel
theorem dX6_image_13 : decode cX6_image 13 = .ok (.ifCond .eq 34, 3) := by decide +kernel
theorem dX6_image_47 : decode cX6_image 47 = .ok (.bipush (-2), 2) := by decide +kernel
theorem dX6_image_49 : decode cX6_image 49 = .ok (.ireturn, 1) := by decide +kernel
theorem dX6_kernel_0 : decode cX6_kernel 0 = .ok (.iload_n 1, 1) := by decide +kernel
theorem dX6_kernel_1 : decode cX6_kernel 1 = .ok (.i2l, 1) := by decide +kernel
theorem dX6_kernel_2 : decode cX6_kernel 2 = .ok (.lconst 0, 1) := by decide +kernel
theorem dX6_kernel_3 : decode cX6_kernel 3 = .ok (.aload_n 0, 1) := by decide +kernel
theorem dX6_kernel_4 : decode cX6_kernel 4 = .ok (.getfield 112, 3) := by decide +kernel
theorem dX6_kernel_7 : decode cX6_kernel 7 = .ok (.iconst 1, 1) := by decide +kernel
theorem dX6_kernel_8 : decode cX6_kernel 8 = .ok (.isub, 1) := by decide +kernel
theorem dX6_kernel_9 : decode cX6_kernel 9 = .ok (.i2l, 1) := by decide +kernel
theorem dX6_kernel_10 : decode cX6_kernel 10 = .ok (.invokestatic 100, 3) := by decide +kernel
theorem dX6_kernel_13 : decode cX6_kernel 13 = .ok (.ifCond .eq 25, 3) := by decide +kernel
theorem dX6_kernel_38 : decode cX6_kernel 38 = .ok (.bipush (-2), 2) := by decide +kernel
theorem dX6_kernel_40 : decode cX6_kernel 40 = .ok (.ireturn, 1) := by decide +kernel
theorem dX6_sign_0 : decode cX6_sign 0 = .ok (.aload_n 0, 1) := by decide +kernel
theorem dX6_sign_1 : decode cX6_sign 1 = .ok (.iload_n 1, 1) := by decide +kernel
theorem dX6_sign_2 : decode cX6_sign 2 = .ok (.invokevirtual 132, 3) := by decide +kernel
theorem dX6_sign_5 : decode cX6_sign 5 = .ok (.ifCond .eq 27, 3) := by decide +kernel
theorem dX6_sign_32 : decode cX6_sign 32 = .ok (.bipush (-2), 2) := by decide +kernel
theorem dX6_sign_34 : decode cX6_sign 34 = .ok (.ireturn, 1) := by decide +kernel
theorem dX6_good_0 : decode cX6_good 0 = .ok (.aload_n 0, 1) := by decide +kernel
theorem dX6_good_1 : decode cX6_good 1 = .ok (.iload_n 1, 1) := by decide +kernel
theorem dX6_good_2 : decode cX6_good 2 = .ok (.invokevirtual 132, 3) := by decide +kernel
theorem dX6_good_5 : decode cX6_good 5 = .ok (.ifCond .eq 24, 3) := by decide +kernel
theorem dX6_good_29 : decode cX6_good 29 = .ok (.bipush (-2), 2) := by decide +kernel
theorem dX6_good_31 : decode cX6_good 31 = .ok (.ireturn, 1) := by decide +kernel
set_option maxRecDepth 20000 in
theorem ggX6_all_X6_in : GoodIn wsX6_all wsX6_in := goodIn_r _ [8] (by decide +kernel) (by decide +kernel)
set_option maxRecDepth 20000 in
theorem gX6_all_X6_in : GoodIn wsX6_all (va_wsS RX6 100 yX6_in wsX6_in) := goodIn_app (goodIn_of _ (by decide +kernel)) ggX6_all_X6_in
set_option maxRecDepth 20000 in
theorem ggX6_all_X6_isPrime : GoodIn wsX6_all wsX6_isPrime := goodIn_r _ [11] (by decide +kernel) (by decide +kernel)
set_option maxRecDepth 20000 in
theorem gX6_all_X6_isPrime : GoodIn wsX6_all (va_wsS RX6 104 yX6_isPrime wsX6_isPrime) := goodIn_app (goodIn_of _ (by decide +kernel)) ggX6_all_X6_isPrime
set_option maxRecDepth 20000 in
theorem ggX6_all_X6_takePrime : GoodIn wsX6_all wsX6_takePrime := goodIn_r _ [15, 16, 17, 18, 19, 4, 49, 50, 51, 52, 53, 54, 55, 56, 57, 58, 59, 60, 61, 62, 63, 64, 65, 66] (by decide +kernel) (by decide +kernel)
set_option maxRecDepth 20000 in
theorem gX6_all_X6_takePrime : GoodIn wsX6_all (wsV RX6 71 RX6 yX6_takePrime wsX6_takePrime) := goodIn_app (goodIn_of _ (by decide +kernel)) ggX6_all_X6_takePrime
set_option maxRecDepth 20000 in
theorem ggX6_all_X6_take : GoodIn wsX6_all wsX6_take := goodIn_r _ [23, 24, 25, 18, 12, 13, 14, 7, 15, 16, 17, 19, 4, 49, 50, 51, 52, 53, 54, 55, 56, 57, 58, 59, 60, 61, 62, 63, 64, 65, 66] (by decide +kernel) (by decide +kernel)
set_option maxRecDepth 20000 in
theorem gX6_all_X6_take : GoodIn wsX6_all (wsV RX6 118 RX6 yX6_take wsX6_take) := goodIn_app (goodIn_of _ (by decide +kernel)) ggX6_all_X6_take
set_option maxRecDepth 20000 in
theorem ggX6_all_X6_split : GoodIn wsX6_all wsX6_split := goodIn_r _ [29, 30, 24, 31, 25, 32, 33, 34, 7, 35, 16, 36, 37, 38, 39, 49, 50, 51, 52, 53, 54, 55, 56, 57, 58, 59, 60, 61, 62, 63, 64, 65, 66] (by decide +kernel) (by decide +kernel)
set_option maxRecDepth 20000 in
theorem gX6_all_X6_split : GoodIn wsX6_all (wsV RX6 122 RX6 yX6_split wsX6_split) := goodIn_app (goodIn_of _ (by decide +kernel)) ggX6_all_X6_split
set_option maxRecDepth 20000 in
theorem ggX6_all_X6_right : GoodIn wsX6_all wsX6_right := goodIn_r _ [43, 24, 25, 32, 33, 34, 7, 35, 16, 36, 37, 38, 39, 49, 50, 51, 52, 53, 54, 55, 56, 57, 58, 59, 60, 61, 62, 63, 64, 65, 66] (by decide +kernel) (by decide +kernel)
set_option maxRecDepth 20000 in
theorem gX6_all_X6_right : GoodIn wsX6_all (wsV RX6 75 RX6 yX6_right wsX6_right) := goodIn_app (goodIn_of _ (by decide +kernel)) ggX6_all_X6_right
set_option maxRecDepth 20000 in
theorem ggX6_all_X6_jOf : GoodIn wsX6_all wsX6_jOf := goodIn_r _ [47, 24, 48, 19, 32, 33, 34, 7, 35, 16, 36, 37, 38, 39, 26, 27, 28, 29, 30, 31, 25, 49, 50, 51, 52, 53, 54, 55, 56, 57, 58, 59, 60, 61, 62, 63, 64, 65, 66] (by decide +kernel) (by decide +kernel)
set_option maxRecDepth 20000 in
theorem gX6_all_X6_jOf : GoodIn wsX6_all (wsV RX6 135 RX6 yX6_jOf wsX6_jOf) := goodIn_app (goodIn_of _ (by decide +kernel)) ggX6_all_X6_jOf
theorem dX6_all_0 : decode cX6_all 0 = .ok (.iload_n 1, 1) := by decide +kernel
theorem dX6_all_1 : decode cX6_all 1 = .ok (.i2l, 1) := by decide +kernel
theorem dX6_all_2 : decode cX6_all 2 = .ok (.ldc2_w 96, 3) := by decide +kernel
theorem dX6_all_5 : decode cX6_all 5 = .ok (.ldc2_w 182, 3) := by decide +kernel
theorem dX6_all_8 : decode cX6_all 8 = .ok (.invokestatic 100, 3) := by decide +kernel
theorem dX6_all_11 : decode cX6_all 11 = .ok (.ifCond .eq 10, 3) := by decide +kernel
theorem dX6_all_14 : decode cX6_all 14 = .ok (.iload_n 1, 1) := by decide +kernel
theorem dX6_all_15 : decode cX6_all 15 = .ok (.invokestatic 104, 3) := by decide +kernel
theorem dX6_all_18 : decode cX6_all 18 = .ok (.ifCond .ne 6, 3) := by decide +kernel
theorem dX6_all_21 : decode cX6_all 21 = .ok (.bipush (-2), 2) := by decide +kernel
theorem dX6_all_23 : decode cX6_all 23 = .ok (.ireturn, 1) := by decide +kernel
theorem dX6_all_24 : decode cX6_all 24 = .ok (.aload_n 0, 1) := by decide +kernel
theorem dX6_all_25 : decode cX6_all 25 = .ok (.iload_n 1, 1) := by decide +kernel
theorem dX6_all_26 : decode cX6_all 26 = .ok (.invokevirtual 71, 3) := by decide +kernel
theorem dX6_all_29 : decode cX6_all 29 = .ok (.iconst 0, 1) := by decide +kernel
theorem dX6_all_30 : decode cX6_all 30 = .ok (.istore 4, 2) := by decide +kernel
theorem dX6_all_32 : decode cX6_all 32 = .ok (.iload 4, 2) := by decide +kernel
theorem dX6_all_34 : decode cX6_all 34 = .ok (.iload_n 1, 1) := by decide +kernel
theorem dX6_all_35 : decode cX6_all 35 = .ok (.if_icmp .ge 17, 3) := by decide +kernel
theorem dX6_all_38 : decode cX6_all 38 = .ok (.aload_n 0, 1) := by decide +kernel
theorem dX6_all_39 : decode cX6_all 39 = .ok (.getfield 44, 3) := by decide +kernel
theorem dX6_all_42 : decode cX6_all 42 = .ok (.iload 4, 2) := by decide +kernel
theorem dX6_all_44 : decode cX6_all 44 = .ok (.iconst 0, 1) := by decide +kernel
theorem dX6_all_45 : decode cX6_all 45 = .ok (.bastore, 1) := by decide +kernel
theorem dX6_all_46 : decode cX6_all 46 = .ok (.iinc 4 1, 3) := by decide +kernel
theorem dX6_all_49 : decode cX6_all 49 = .ok (.goto (-17), 3) := by decide +kernel
theorem dX6_all_52 : decode cX6_all 52 = .ok (.iconst 0, 1) := by decide +kernel
theorem dX6_all_53 : decode cX6_all 53 = .ok (.istore 4, 2) := by decide +kernel
theorem dX6_all_55 : decode cX6_all 55 = .ok (.iconst 0, 1) := by decide +kernel
theorem dX6_all_56 : decode cX6_all 56 = .ok (.istore 5, 2) := by decide +kernel
theorem dX6_all_58 : decode cX6_all 58 = .ok (.iload 5, 2) := by decide +kernel
theorem dX6_all_60 : decode cX6_all 60 = .ok (.iload_n 1, 1) := by decide +kernel
theorem dX6_all_61 : decode cX6_all 61 = .ok (.if_icmp .ge 140, 3) := by decide +kernel
theorem dX6_all_64 : decode cX6_all 64 = .ok (.iconst 0, 1) := by decide +kernel
theorem dX6_all_65 : decode cX6_all 65 = .ok (.istore 6, 2) := by decide +kernel
theorem dX6_all_67 : decode cX6_all 67 = .ok (.iload 6, 2) := by decide +kernel
theorem dX6_all_69 : decode cX6_all 69 = .ok (.iload_n 1, 1) := by decide +kernel
theorem dX6_all_70 : decode cX6_all 70 = .ok (.if_icmp .ge 125, 3) := by decide +kernel
theorem dX6_all_73 : decode cX6_all 73 = .ok (.aload_n 0, 1) := by decide +kernel
theorem dX6_all_74 : decode cX6_all 74 = .ok (.iload_n 1, 1) := by decide +kernel
theorem dX6_all_75 : decode cX6_all 75 = .ok (.iload 5, 2) := by decide +kernel
theorem dX6_all_77 : decode cX6_all 77 = .ok (.iload 6, 2) := by decide +kernel
theorem dX6_all_79 : decode cX6_all 79 = .ok (.invokevirtual 118, 3) := by decide +kernel
theorem dX6_all_82 : decode cX6_all 82 = .ok (.aload_n 0, 1) := by decide +kernel
theorem dX6_all_83 : decode cX6_all 83 = .ok (.invokevirtual 122, 3) := by decide +kernel
theorem dX6_all_86 : decode cX6_all 86 = .ok (.ifCond .eq 103, 3) := by decide +kernel
theorem dX6_all_89 : decode cX6_all 89 = .ok (.iconst 1, 1) := by decide +kernel
theorem dX6_all_90 : decode cX6_all 90 = .ok (.istore 7, 2) := by decide +kernel
theorem dX6_all_92 : decode cX6_all 92 = .ok (.iconst 0, 1) := by decide +kernel
theorem dX6_all_93 : decode cX6_all 93 = .ok (.istore 8, 2) := by decide +kernel
theorem dX6_all_95 : decode cX6_all 95 = .ok (.iload 8, 2) := by decide +kernel
theorem dX6_all_97 : decode cX6_all 97 = .ok (.iload_n 1, 1) := by decide +kernel
theorem dX6_all_98 : decode cX6_all 98 = .ok (.if_icmp .ge 47, 3) := by decide +kernel
theorem dX6_all_101 : decode cX6_all 101 = .ok (.aload_n 0, 1) := by decide +kernel
theorem dX6_all_102 : decode cX6_all 102 = .ok (.getfield 13, 3) := by decide +kernel
theorem dX6_all_105 : decode cX6_all 105 = .ok (.aload_n 0, 1) := by decide +kernel
theorem dX6_all_106 : decode cX6_all 106 = .ok (.iload 8, 2) := by decide +kernel
theorem dX6_all_108 : decode cX6_all 108 = .ok (.invokevirtual 75, 3) := by decide +kernel
theorem dX6_all_111 : decode cX6_all 111 = .ok (.iaload, 1) := by decide +kernel
theorem dX6_all_112 : decode cX6_all 112 = .ok (.istore 9, 2) := by decide +kernel
theorem dX6_all_114 : decode cX6_all 114 = .ok (.iload 7, 2) := by decide +kernel
theorem dX6_all_116 : decode cX6_all 116 = .ok (.iload 9, 2) := by decide +kernel
theorem dX6_all_118 : decode cX6_all 118 = .ok (.iconst (-1), 1) := by decide +kernel
theorem dX6_all_119 : decode cX6_all 119 = .ok (.if_icmp .ne 7, 3) := by decide +kernel
theorem dX6_all_122 : decode cX6_all 122 = .ok (.iconst 0, 1) := by decide +kernel
theorem dX6_all_123 : decode cX6_all 123 = .ok (.goto 13, 3) := by decide +kernel
theorem dX6_all_126 : decode cX6_all 126 = .ok (.iload 9, 2) := by decide +kernel
theorem dX6_all_128 : decode cX6_all 128 = .ok (.ifCond .ne 7, 3) := by decide +kernel
theorem dX6_all_131 : decode cX6_all 131 = .ok (.iconst 1, 1) := by decide +kernel
theorem dX6_all_132 : decode cX6_all 132 = .ok (.goto 4, 3) := by decide +kernel
theorem dX6_all_135 : decode cX6_all 135 = .ok (.iconst 2, 1) := by decide +kernel
theorem dX6_all_136 : decode cX6_all 136 = .ok (.iadd, 1) := by decide +kernel
theorem dX6_all_137 : decode cX6_all 137 = .ok (.istore 7, 2) := by decide +kernel
theorem dX6_all_139 : decode cX6_all 139 = .ok (.iinc 8 1, 3) := by decide +kernel
theorem dX6_all_142 : decode cX6_all 142 = .ok (.goto (-47), 3) := by decide +kernel
theorem dX6_all_145 : decode cX6_all 145 = .ok (.iload 7, 2) := by decide +kernel
theorem dX6_all_147 : decode cX6_all 147 = .ok (.iload_n 2, 1) := by decide +kernel
theorem dX6_all_148 : decode cX6_all 148 = .ok (.if_icmp .ne 41, 3) := by decide +kernel
theorem dX6_all_151 : decode cX6_all 151 = .ok (.aload_n 0, 1) := by decide +kernel
theorem dX6_all_152 : decode cX6_all 152 = .ok (.invokevirtual 135, 3) := by decide +kernel
theorem dX6_all_155 : decode cX6_all 155 = .ok (.istore 8, 2) := by decide +kernel
theorem dX6_all_157 : decode cX6_all 157 = .ok (.iload 4, 2) := by decide +kernel
theorem dX6_all_159 : decode cX6_all 159 = .ok (.iload_n 3, 1) := by decide +kernel
theorem dX6_all_160 : decode cX6_all 160 = .ok (.ifCond .eq 17, 3) := by decide +kernel
theorem dX6_all_163 : decode cX6_all 163 = .ok (.aload_n 0, 1) := by decide +kernel
theorem dX6_all_164 : decode cX6_all 164 = .ok (.getfield 44, 3) := by decide +kernel
theorem dX6_all_167 : decode cX6_all 167 = .ok (.iload 8, 2) := by decide +kernel
theorem dX6_all_169 : decode cX6_all 169 = .ok (.baload, 1) := by decide +kernel
theorem dX6_all_170 : decode cX6_all 170 = .ok (.ifCond .eq 7, 3) := by decide +kernel
theorem dX6_all_173 : decode cX6_all 173 = .ok (.iconst 0, 1) := by decide +kernel
theorem dX6_all_174 : decode cX6_all 174 = .ok (.goto 4, 3) := by decide +kernel
theorem dX6_all_177 : decode cX6_all 177 = .ok (.iconst 1, 1) := by decide +kernel
theorem dX6_all_178 : decode cX6_all 178 = .ok (.iadd, 1) := by decide +kernel
theorem dX6_all_179 : decode cX6_all 179 = .ok (.istore 4, 2) := by decide +kernel
theorem dX6_all_181 : decode cX6_all 181 = .ok (.aload_n 0, 1) := by decide +kernel
theorem dX6_all_182 : decode cX6_all 182 = .ok (.getfield 44, 3) := by decide +kernel
theorem dX6_all_185 : decode cX6_all 185 = .ok (.iload 8, 2) := by decide +kernel
theorem dX6_all_187 : decode cX6_all 187 = .ok (.iconst 1, 1) := by decide +kernel
theorem dX6_all_188 : decode cX6_all 188 = .ok (.bastore, 1) := by decide +kernel
theorem dX6_all_189 : decode cX6_all 189 = .ok (.iinc 6 1, 3) := by decide +kernel
theorem dX6_all_192 : decode cX6_all 192 = .ok (.goto (-125), 3) := by decide +kernel
theorem dX6_all_195 : decode cX6_all 195 = .ok (.iinc 5 1, 3) := by decide +kernel
theorem dX6_all_198 : decode cX6_all 198 = .ok (.goto (-140), 3) := by decide +kernel
theorem dX6_all_201 : decode cX6_all 201 = .ok (.iload 4, 2) := by decide +kernel
theorem dX6_all_203 : decode cX6_all 203 = .ok (.ireturn, 1) := by decide +kernel
set_option maxRecDepth 20000 in
theorem ggX6_census_X6_all : GoodIn wsX6_census wsX6_all := goodIn_r _ [5, 6, 7, 8, 9, 10, 11, 4, 12, 13, 14, 15, 16, 17, 18, 19, 20, 21, 22, 23, 24, 25, 26, 27, 28, 29, 30, 31, 32, 33, 34, 35, 36, 37, 38, 39, 40, 41, 42, 43, 44, 45, 46, 47, 48, 49, 50, 51, 52, 53, 54, 55, 56, 57, 58, 59, 60, 61, 62, 63, 64, 65, 66, 67, 68, 69, 70] (by decide +kernel) (by decide +kernel)
set_option maxRecDepth 20000 in
theorem gX6_census_X6_all : GoodIn wsX6_census (wsV RX6 184 RX6 yX6_all wsX6_all) := goodIn_app (goodIn_of _ (by decide +kernel)) ggX6_census_X6_all
theorem dX6_census_0 : decode cX6_census 0 = .ok (.aload_n 0, 1) := by decide +kernel
theorem dX6_census_1 : decode cX6_census 1 = .ok (.iload_n 1, 1) := by decide +kernel
theorem dX6_census_2 : decode cX6_census 2 = .ok (.iload_n 2, 1) := by decide +kernel
theorem dX6_census_3 : decode cX6_census 3 = .ok (.iconst 0, 1) := by decide +kernel
theorem dX6_census_4 : decode cX6_census 4 = .ok (.invokevirtual 184, 3) := by decide +kernel
theorem dX6_census_7 : decode cX6_census 7 = .ok (.ireturn, 1) := by decide +kernel
set_option maxRecDepth 20000 in
theorem ggX6_kinds_X6_all : GoodIn wsX6_kinds wsX6_all := goodIn_r _ [5, 6, 7, 8, 9, 10, 11, 4, 12, 13, 14, 15, 16, 17, 18, 19, 20, 21, 22, 23, 24, 25, 26, 27, 28, 29, 30, 31, 32, 33, 34, 35, 36, 37, 38, 39, 40, 41, 42, 43, 44, 45, 46, 47, 48, 49, 50, 51, 52, 53, 54, 55, 56, 57, 58, 59, 60, 61, 62, 63, 64, 65, 66, 67, 68, 69, 70] (by decide +kernel) (by decide +kernel)
set_option maxRecDepth 20000 in
theorem gX6_kinds_X6_all : GoodIn wsX6_kinds (wsV RX6 184 RX6 yX6_all wsX6_all) := goodIn_app (goodIn_of _ (by decide +kernel)) ggX6_kinds_X6_all
theorem dX6_kinds_0 : decode cX6_kinds 0 = .ok (.aload_n 0, 1) := by decide +kernel
theorem dX6_kinds_1 : decode cX6_kinds 1 = .ok (.iload_n 1, 1) := by decide +kernel
theorem dX6_kinds_2 : decode cX6_kinds 2 = .ok (.iload_n 2, 1) := by decide +kernel
theorem dX6_kinds_3 : decode cX6_kinds 3 = .ok (.iconst 1, 1) := by decide +kernel
theorem dX6_kinds_4 : decode cX6_kinds 4 = .ok (.invokevirtual 184, 3) := by decide +kernel
theorem dX6_kinds_7 : decode cX6_kinds 7 = .ok (.ireturn, 1) := by decide +kernel
theorem dX6_curves_0 : decode cX6_curves 0 = .ok (.aload_n 0, 1) := by decide +kernel
theorem dX6_curves_1 : decode cX6_curves 1 = .ok (.getfield 112, 3) := by decide +kernel
theorem dX6_curves_4 : decode cX6_curves 4 = .ok (.ireturn, 1) := by decide +kernel
theorem dX6_drop_0 : decode cX6_drop 0 = .ok (.aload_n 0, 1) := by decide +kernel
theorem dX6_drop_1 : decode cX6_drop 1 = .ok (.getfield 112, 3) := by decide +kernel
theorem dX6_drop_4 : decode cX6_drop 4 = .ok (.ifCond .ne 5, 3) := by decide +kernel
theorem dX6_drop_7 : decode cX6_drop 7 = .ok (.iconst (-1), 1) := by decide +kernel
theorem dX6_drop_8 : decode cX6_drop 8 = .ok (.ireturn, 1) := by decide +kernel
theorem dX6_drop_9 : decode cX6_drop 9 = .ok (.aload_n 0, 1) := by decide +kernel
theorem dX6_drop_10 : decode cX6_drop 10 = .ok (.dup, 1) := by decide +kernel
theorem dX6_drop_11 : decode cX6_drop 11 = .ok (.getfield 112, 3) := by decide +kernel
theorem dX6_drop_14 : decode cX6_drop 14 = .ok (.iconst 1, 1) := by decide +kernel
theorem dX6_drop_15 : decode cX6_drop 15 = .ok (.isub, 1) := by decide +kernel
theorem dX6_drop_16 : decode cX6_drop 16 = .ok (.putfield 112, 3) := by decide +kernel
theorem dX6_drop_19 : decode cX6_drop 19 = .ok (.aload_n 0, 1) := by decide +kernel
theorem dX6_drop_20 : decode cX6_drop 20 = .ok (.getfield 112, 3) := by decide +kernel
theorem dX6_drop_23 : decode cX6_drop 23 = .ok (.ireturn, 1) := by decide +kernel
abbrev vwCl : List vw_C := [(RX0, TX0, 12), (RX1, TX1, 2), (RX2, TX2, 6), (RX3, TX3, 3), (RX5, TX5, 4), (RX6, TX6, 18)]
end
section
def mi_let {α β : Type} (x : α) (k : α → β) : β := k x
theorem mi_use {α β : Type} {e y : α} {k : α → Option β} {o : β} (ey : y = e) (h : mi_let e k = some o) : k y = some o := by
  subst ey
  exact h
def mi_rem (x y : Int32) : Int32 := x - x / y * y
def mi_lrem (x y : Int64) : Int64 := x - x / y * y
def mi_run {σ ρ : Type} (f : σ → Option (σ ⊕ ρ)) : Nat → σ → Option ρ
  | 0, _ => none
  | n + 1, s => (f s).bind (fun w => match w with | .inl t => mi_run f n t | .inr r => some r)
theorem mi_run_0 {σ ρ : Type} (f : σ → Option (σ ⊕ ρ)) (s : σ) (o : ρ) : ¬ mi_run f 0 s = some o := by
  intro h
  simp [mi_run] at h
theorem mi_run_s {σ ρ : Type} {f : σ → Option (σ ⊕ ρ)} {n : Nat} {s : σ} {o : ρ} (h : mi_run f (n + 1) s = some o) : ∃ w, f s = some w ∧ (∀ t, w = .inl t → mi_run f n t = some o) ∧ (∀ r, w = .inr r → o = r) := by
  obtain ⟨w, h1, h2⟩ := Option.bind_eq_some_iff.mp h
  refine ⟨w, h1, ?_, ?_⟩
  · intro t e
    subst e
    exact h2
  · intro r e
    subst e
    exact (Option.some.inj h2).symm
/-- a loop that keeps I and whose measure falls comes to an end with Q -/
theorem mi_run_ok {σ ρ : Type} (f : σ → Option (σ ⊕ ρ)) (I : σ → Prop) (Q : ρ → Prop) (μ : σ → Nat)
    (hs : ∀ s, I s → (∃ t, f s = some (.inl t) ∧ I t ∧ μ t < μ s) ∨ (∃ r, f s = some (.inr r) ∧ Q r)) :
    ∀ n s, I s → μ s < n → ∃ r, mi_run f n s = some r ∧ Q r := by
  intro n
  induction n with
  | zero => intro s _ h; exact absurd h (Nat.not_lt_zero _)
  | succ n ih =>
    intro s hI hm
    rcases hs s hI with ⟨t, e, hT, hlt⟩ | ⟨r, e, hQ⟩
    · obtain ⟨r, e2, hQ⟩ := ih t hT (by omega)
      exact ⟨r, by simp [mi_run, e, e2], hQ⟩
    · exact ⟨r, by simp [mi_run, e], hQ⟩
def mi_nots (x : Int32) : Nat → Nat → Prop
  | 0, _ => True
  | n + 1, k => ¬ x = Int32.ofNat k ∧ mi_nots x n (k + 1)
theorem mi_nots_at {x : Int32} : ∀ (n k : Nat), mi_nots x n k → ∀ j, j < n → ¬ x = Int32.ofNat (k + j) := by
  intro n
  induction n with
  | zero => intro k _ j hj; exact absurd hj (Nat.not_lt_zero _)
  | succ n ih =>
    intro k h j hj
    cases j with
    | zero => exact h.1
    | succ j =>
      have := ih (k + 1) h.2 j (by omega)
      rw [show k + (j + 1) = k + 1 + j by omega]
      exact this
theorem mi_tab (x : Int32) (hi : Int) (n : Nat) (e : (n : Int) = hi + 1) (hn : n < 2 ^ 31) (h : mi_nots x n 0) : x.toInt < 0 ∨ hi < x.toInt := by
  by_cases h0 : x < 0
  · exact Or.inl (Int32.lt_iff_toInt_lt.mp h0)
  · obtain ⟨j, hj, ex⟩ := nI_of h0
    right
    have h1 := mi_nots_at n 0 h j
    rw [ex, nI_toInt hj]
    rcases Nat.lt_or_ge j n with q | q
    · exact absurd (by rw [ex, Nat.zero_add]; rfl) (h1 q)
    · omega
theorem mi_az (n : Nat) (cA : ClassId) : vp_cell cA (n, .inl (fun _ => 0)) = arrV cA n (fun _ => defaultValue .int) := rfl
theorem mi_azZ (n : Nat) (cA : ClassId) : vp_cell cA (n, .inl (fun _ => 0)) = arrV cA n (fun _ => defaultValue .boolean) := rfl
section MiCr
variable {p : Program} {l : Launch} {e : Env} {R : Room} {s : State} {m : MethodId} {args : Array Value} {below : List Frame} {meth : Method} {c : Code} {H : Heap} {locs : List Loc} {cells slots mc ms : Nat} {g : JFrame} {rest : List Value} {Qa : State → Outcome → State → Prop} {free : Addr → Prop}
theorem mi_cr (h : va_Run p l e R s m args below meth c H locs cells slots mc ms g rest Qa free) : CallRun p l e R s m args below meth c H locs cells slots mc ms g rest Qa free := by
  intro T hT X
  obtain ⟨v, st₀, t, T', L, h0, X', hL, e1, -, hq, st⟩ := h T hT X
  exact ⟨v, st₀, t, T', L, h0, X', hL, e1, hq, st⟩
end MiCr
end
section
def nw_all (U : State) : Prop := va_Nw (.methodLinkNest RX0 27 yX5_xOf RX5) U ∧ va_Nw (.methodLinkNest RX0 31 yX5_yOf RX5) U ∧ va_Nw (.methodLinkNest RX0 60 yX5_pair RX5) U ∧ va_Nw (.methodLinkNest RX2 57 yX5_xOf RX5) U ∧ va_Nw (.methodLinkNest RX3 72 yX5_pair RX5) U ∧ va_Nw (.methodLinkNest RX3 82 yX5_xOf RX5) U ∧ va_AO RX0 U
theorem nw_X0_27 {U : State} (h : nw_all U) : va_Nw (.methodLinkNest RX0 27 yX5_xOf RX5) U := h.1
theorem nw_X0_31 {U : State} (h : nw_all U) : va_Nw (.methodLinkNest RX0 31 yX5_yOf RX5) U := h.2.1
theorem nw_X0_60 {U : State} (h : nw_all U) : va_Nw (.methodLinkNest RX0 60 yX5_pair RX5) U := h.2.2.1
theorem nw_X2_57 {U : State} (h : nw_all U) : va_Nw (.methodLinkNest RX2 57 yX5_xOf RX5) U := h.2.2.2.1
theorem nw_X3_72 {U : State} (h : nw_all U) : va_Nw (.methodLinkNest RX3 72 yX5_pair RX5) U := h.2.2.2.2.1
theorem nw_X3_82 {U : State} (h : nw_all U) : va_Nw (.methodLinkNest RX3 82 yX5_xOf RX5) U := h.2.2.2.2.2.1
theorem nw_ao {U : State} (h : nw_all U) : va_AO RX0 U := h.2.2.2.2.2.2
theorem nw_warm {s U : State} (hW : s.WarmedH U.vm) (h : nw_all s) : nw_all U := ⟨va_Nw.warmM hW (h.1), va_Nw.warmM hW (h.2.1), va_Nw.warmM hW (h.2.2.1), va_Nw.warmM hW (h.2.2.2.1), va_Nw.warmM hW (h.2.2.2.2.1), va_Nw.warmM hW (h.2.2.2.2.2.1), va_AO.moved hW.alike (h.2.2.2.2.2.2)⟩
theorem nw_same {u U : State} (hvm : u.vm = U.vm) (h : nw_all u) : nw_all U := ⟨va_Nw.same rfl hvm (h.1), va_Nw.same rfl hvm (h.2.1), va_Nw.same rfl hvm (h.2.2.1), va_Nw.same rfl hvm (h.2.2.2.1), va_Nw.same rfl hvm (h.2.2.2.2.1), va_Nw.same rfl hvm (h.2.2.2.2.2.1), va_AO.moved (by rw [hvm]; exact Vm.Alike.refl _) (h.2.2.2.2.2.2)⟩
end
section
def mX4_leastFactor_b2 (N : Nat) (a0 : Int32) (st : Int32) : Option ((Int32) ⊕ ((Int32) ⊕ (Int32))) :=
  match st with
  | x1 => if x1 = 0 then none else mi_let (a0 / x1) (fun v4 => if v4 < x1 then some (.inr (.inl x1)) else if x1 = 0 then none else mi_let (mi_rem a0 x1) (fun v7 => if v7 = 0 then some (.inr (.inr x1)) else mi_let (x1 + 1) (fun v9 => some (.inl v9))))
def mX4_leastFactor (N : Nat) (a0 : Int32) : Option (Int32) := (mi_run (mX4_leastFactor_b2 N a0) N 2).bind (fun o10 => match o10 with | .inl y2 => some a0 | .inr r11 => some r11)
abbrev rmX4_leastFactor : Room := { frames := 0, cells := 0, slots := 0, locals := 0 }
set_option maxHeartbeats 4000000 in
set_option maxRecDepth 100000 in
theorem ctX4_leastFactor (l : Launch) (N : Nat) (a0 : Int32) (rr : Int32) (h : mX4_leastFactor N a0 = some rr) : Met l yX4_leastFactor wsX4_leastFactor rmX4_leastFactor (fun v _ => v = ([.int a0] : List Value).toArray) (vp_Si (fun r => r = rr)) 0 0 (fun _ => False) := by
  refine Met.ofW (cc := cX4_leastFactor) (maxL := 2) (ret := (some .int)) (by decide) rfl ?_
  intro p e s m args below meth c s₁ B hml hv
  subst hv
  have hx := B.exec
  have hb := B.bytes
  have hr := B.returns
  have hts := atoms_spec (ws := wsX4_leastFactor) B.pre
  have hown : s.vm.findClass RX4 = some m.cls := findClass_of_methodNamed B.named
  have hlocks := B.notSynchronized
  have hl := lv_entry ([.int a0]) (n := 2) (Nat.le_of_ble_eq_true rfl)
  rw [lg_entry_eq]
  generalize (lg_sl ([.int a0]) ++ List.replicate (2 - (lg_sl ([.int a0])).length) Slot.unset).toArray = ls at hl ⊢
  have hl : lv_has ls 2 [(0, .int a0)] := hl
  dsimp only [mX4_leastFactor] at h
  refine lv_iconst (v := 2) hx hb dX4_leastFactor_0 (by decide) ?_
  refine lv_istore_n (lv' := [(1, .int 2), (0, .int a0)]) hx hb dX4_leastFactor_1 rfl hl (by decide) rfl (fun ls hl => ?_)
  have L2 : ∀ (n : Nat) (x1 : Int32) (o : (Int32) ⊕ (Int32)), mi_run (mX4_leastFactor_b2 N a0) n x1 = some o → (∀ (y2 : Int32), o = .inl y2 → ∀ ls, lv_has ls 2 [(1, .int y2), (0, .int a0)] → W p l e (headSpec wsX4_leastFactor rmX4_leastFactor).room s m (([.int a0] : List Value).toArray) below meth c s.heap [] 0 0 (MQ below (vp_Si (fun r => r = rr)) (([.int a0] : List Value).toArray) s 0 0 (fun _ => False)) (F0 m 23 ls [])) → (∀ v : Int32, o = .inr v → v = rr) → ∀ ls, lv_has ls 2 [(1, .int x1), (0, .int a0)] → W p l e (headSpec wsX4_leastFactor rmX4_leastFactor).room s m (([.int a0] : List Value).toArray) below meth c s.heap [] 0 0 (MQ below (vp_Si (fun r => r = rr)) (([.int a0] : List Value).toArray) s 0 0 (fun _ => False)) (F0 m 2 ls []) := by
    intro n
    induction n with
    | zero => intro x1 o h; exact absurd h (mi_run_0 _ _ _)
    | succ n ih =>
      intro x1 o h hkE hkR ls hl
      obtain ⟨w, h, hA, hB⟩ := mi_run_s h
      dsimp only [mX4_leastFactor_b2] at h
      refine lv_iload_n hx hb dX4_leastFactor_2 rfl (lv_at hl 0 rfl) ?_
      refine lv_iload_n hx hb dX4_leastFactor_3 rfl (lv_at hl 1 rfl) ?_
      refine lv_iload_n hx hb dX4_leastFactor_4 rfl (lv_at hl 0 rfl) ?_
      have hn3 : ¬ x1 = 0 := fun hz => absurd ((if_pos hz).symm.trans h) (fun hh => nomatch hh)
      replace h := (if_neg hn3).symm.trans h
      refine lv_idiv hx hb dX4_leastFactor_5 hn3 ?_
      refine lv_topi (fun v4 ev4 => ?_)
      replace h := mi_use ev4 h
      refine lv_icmp_gt (tgt := 23) hx hb dX4_leastFactor_6 (by decide) (fun c5 => ?_) (fun c5 => ?_)
      · replace h := (if_pos c5).symm.trans h
        exact hkE _ (hB _ (Option.some.inj h).symm) ls (lv_sub hl [0, 1] rfl)
      · replace h := (if_neg c5).symm.trans h
        refine lv_iload_n hx hb dX4_leastFactor_9 rfl (lv_at hl 1 rfl) ?_
        refine lv_iload_n hx hb dX4_leastFactor_10 rfl (lv_at hl 0 rfl) ?_
        have hn6 : ¬ x1 = 0 := fun hz => absurd ((if_pos hz).symm.trans h) (fun hh => nomatch hh)
        replace h := (if_neg hn6).symm.trans h
        refine lv_irem hx hb dX4_leastFactor_11 hn6 ?_
        refine lv_topi (fun v7 ev7 => ?_)
        replace h := mi_use ev7 h
        refine lv_if_ne (tgt := 17) hx hb dX4_leastFactor_12 (by decide) (fun c8 => ?_) (fun c8 => ?_)
        · replace h := (if_neg c8).symm.trans h
          obtain ⟨v9, ev9⟩ : ∃ z : Int32, z = x1 + 1 := ⟨_, rfl⟩
          refine lv_iinc (v := v9) (lv' := [(1, .int v9), (0, .int a0)]) hx hb dX4_leastFactor_17 hl (k := 0) rfl (by rw [ev9]; rfl) (by decide) rfl (fun ls hl => ?_)
          replace h := mi_use ev9 h
          refine lv_goto (tgt := 2) hx hb dX4_leastFactor_20 (by decide) ?_
          exact ih _ _ (hA _ (Option.some.inj h).symm) hkE hkR ls (lv_sub hl [0, 1] rfl)
        · replace h := (if_pos c8).symm.trans h
          refine lv_iload_n hx hb dX4_leastFactor_15 rfl (lv_at hl 0 rfl) ?_
          have hv : x1 = rr := hkR _ (hB _ (Option.some.inj h).symm)
          exact W.iret (v := x1) hx hb hr (fun t ht hW => ⟨_, rfl, hv, ht⟩) (fun q hq => absurd hq List.not_mem_nil) dX4_leastFactor_16
  obtain ⟨o10, ho10, h⟩ := Option.bind_eq_some_iff.mp h
  refine L2 N _ o10 ho10 ?_ ?_ ls (lv_sub hl [0, 1] rfl)
  · intro y2 eo ls hl
    subst eo
    dsimp only at h
    refine lv_iload_n hx hb dX4_leastFactor_23 rfl (lv_at hl 1 rfl) ?_
    have hv : a0 = rr := Option.some.inj h
    exact W.iret (v := a0) hx hb hr (fun t ht hW => ⟨_, rfl, hv, ht⟩) (fun q hq => absurd hq List.not_mem_nil) dX4_leastFactor_24
  · intro r11 eo
    subst eo
    dsimp only at h
    exact Option.some.inj h
def mX4_isPrime (N : Nat) (a0 : Int32) : Option (Int32) := if a0 < 2 then some 0 else (mX4_leastFactor N a0).bind (fun r2 => if r2 = a0 then some 1 else some 0)
abbrev rmX4_isPrime : Room := { frames := 1, cells := 0, slots := 0, locals := 21 }
set_option maxHeartbeats 4000000 in
set_option maxRecDepth 100000 in
theorem ctX4_isPrime (l : Launch) (N : Nat) (a0 : Int32) (rr : Int32) (h : mX4_isPrime N a0 = some rr) : Met l yX4_isPrime wsX4_isPrime rmX4_isPrime (fun v _ => v = ([.int a0] : List Value).toArray) (vp_Si (fun r => r = rr)) 0 0 (fun _ => False) := by
  refine Met.ofW (cc := cX4_isPrime) (maxL := 1) (ret := (some .boolean)) (by decide) rfl ?_
  intro p e s m args below meth c s₁ B hml hv
  subst hv
  have hx := B.exec
  have hb := B.bytes
  have hr := B.returns
  have hts := atoms_spec (ws := wsX4_isPrime) B.pre
  have hown : s.vm.findClass RX4 = some m.cls := findClass_of_methodNamed B.named
  have hlocks := B.notSynchronized
  have hl := lv_entry ([.int a0]) (n := 1) (Nat.le_of_ble_eq_true rfl)
  rw [lg_entry_eq]
  generalize (lg_sl ([.int a0]) ++ List.replicate (1 - (lg_sl ([.int a0])).length) Slot.unset).toArray = ls at hl ⊢
  have hl : lv_has ls 1 [(0, .int a0)] := hl
  dsimp only [mX4_isPrime] at h
  refine lv_iload_n hx hb dX4_isPrime_0 rfl (lv_at hl 0 rfl) ?_
  refine lv_iconst (v := 2) hx hb dX4_isPrime_1 (by decide) ?_
  refine lv_icmp_lt (tgt := 17) hx hb dX4_isPrime_2 (by decide) (fun c1 => ?_) (fun c1 => ?_)
  · replace h := (if_pos c1).symm.trans h
    refine lv_iconst (v := 0) hx hb dX4_isPrime_17 (by decide) ?_
    have hv : 0 = rr := Option.some.inj h
    exact W.zret (v := 0) hx hb hr (by decide) (fun t ht hW => ⟨_, rfl, hv, ht⟩) (fun q hq => absurd hq List.not_mem_nil) dX4_isPrime_18
  · replace h := (if_neg c1).symm.trans h
    refine lv_iload_n hx hb dX4_isPrime_5 rfl (lv_at hl 0 rfl) ?_
    obtain ⟨r2, hr2, h⟩ := Option.bind_eq_some_iff.mp h
    refine vp_callSi (W.runS (As := [.int a0]) (rest := []) ⟨hx, hb, hml, hown, hts⟩ (ctX4_leastFactor l N  a0 r2 hr2) (va_cwS 1 hts gX4_isPrime_X4_leastFactor rfl rfl rfl (by decide +kernel) ⟨Nat.le_of_ble_eq_true rfl, Nat.le_of_ble_eq_true rfl⟩) preEq rfl rfl hl.1 rfl (lv_room (Nat.le_of_ble_eq_true rfl)) dX4_isPrime_6 ⟨Nat.le_of_ble_eq_true rfl, Nat.le_of_ble_eq_true rfl⟩) (fun q9 eq9 => ?_)
    subst eq9
    refine lv_iload_n hx hb dX4_isPrime_9 rfl (lv_at hl 0 rfl) ?_
    refine lv_icmp_ne (tgt := 17) hx hb dX4_isPrime_10 (by decide) (fun c3 => ?_) (fun c3 => ?_)
    · replace h := (if_neg c3).symm.trans h
      refine lv_iconst (v := 0) hx hb dX4_isPrime_17 (by decide) ?_
      have hv : 0 = rr := Option.some.inj h
      exact W.zret (v := 0) hx hb hr (by decide) (fun t ht hW => ⟨_, rfl, hv, ht⟩) (fun q hq => absurd hq List.not_mem_nil) dX4_isPrime_18
    · replace h := (if_pos c3).symm.trans h
      refine lv_iconst (v := 1) hx hb dX4_isPrime_13 (by decide) ?_
      refine lv_goto (tgt := 18) hx hb dX4_isPrime_14 (by decide) ?_
      have hv : 1 = rr := Option.some.inj h
      exact W.zret (v := 1) hx hb hr (by decide) (fun t ht hW => ⟨_, rfl, hv, ht⟩) (fun q hq => absurd hq List.not_mem_nil) dX4_isPrime_18
def mX4_isFieldPrime (N : Nat) (a0 : Int32) : Option (Int32) := if a0 < 5 then some 0 else if 10007 < a0 then some 0 else (mX4_isPrime N a0).bind (fun r3 => if r3 = 0 then some 0 else some 1)
abbrev rmX4_isFieldPrime : Room := { frames := 2, cells := 0, slots := 0, locals := 41 }
set_option maxHeartbeats 4000000 in
set_option maxRecDepth 100000 in
theorem ctX4_isFieldPrime (l : Launch) (N : Nat) (a0 : Int32) (rr : Int32) (h : mX4_isFieldPrime N a0 = some rr) : Met l yX4_isFieldPrime wsX4_isFieldPrime rmX4_isFieldPrime (fun v _ => v = ([.int a0] : List Value).toArray) (vp_Si (fun r => r = rr)) 0 0 (fun _ => False) := by
  refine Met.ofW (cc := cX4_isFieldPrime) (maxL := 1) (ret := (some .boolean)) (by decide) rfl ?_
  intro p e s m args below meth c s₁ B hml hv
  subst hv
  have hx := B.exec
  have hb := B.bytes
  have hr := B.returns
  have hts := atoms_spec (ws := wsX4_isFieldPrime) B.pre
  have hown : s.vm.findClass RX4 = some m.cls := findClass_of_methodNamed B.named
  have hlocks := B.notSynchronized
  have hl := lv_entry ([.int a0]) (n := 1) (Nat.le_of_ble_eq_true rfl)
  rw [lg_entry_eq]
  generalize (lg_sl ([.int a0]) ++ List.replicate (1 - (lg_sl ([.int a0])).length) Slot.unset).toArray = ls at hl ⊢
  have hl : lv_has ls 1 [(0, .int a0)] := hl
  dsimp only [mX4_isFieldPrime] at h
  refine lv_iload_n hx hb dX4_isFieldPrime_0 rfl (lv_at hl 0 rfl) ?_
  refine lv_iconst (v := 5) hx hb dX4_isFieldPrime_1 (by decide) ?_
  refine lv_icmp_lt (tgt := 23) hx hb dX4_isFieldPrime_2 (by decide) (fun c1 => ?_) (fun c1 => ?_)
  · replace h := (if_pos c1).symm.trans h
    refine lv_iconst (v := 0) hx hb dX4_isFieldPrime_23 (by decide) ?_
    have hv : 0 = rr := Option.some.inj h
    exact W.zret (v := 0) hx hb hr (by decide) (fun t ht hW => ⟨_, rfl, hv, ht⟩) (fun q hq => absurd hq List.not_mem_nil) dX4_isFieldPrime_24
  · replace h := (if_neg c1).symm.trans h
    refine lv_iload_n hx hb dX4_isFieldPrime_5 rfl (lv_at hl 0 rfl) ?_
    refine lv_sipush (v := 10007) hx hb dX4_isFieldPrime_6 (by decide) ?_
    refine lv_icmp_gt (tgt := 23) hx hb dX4_isFieldPrime_9 (by decide) (fun c2 => ?_) (fun c2 => ?_)
    · replace h := (if_pos c2).symm.trans h
      refine lv_iconst (v := 0) hx hb dX4_isFieldPrime_23 (by decide) ?_
      have hv : 0 = rr := Option.some.inj h
      exact W.zret (v := 0) hx hb hr (by decide) (fun t ht hW => ⟨_, rfl, hv, ht⟩) (fun q hq => absurd hq List.not_mem_nil) dX4_isFieldPrime_24
    · replace h := (if_neg c2).symm.trans h
      refine lv_iload_n hx hb dX4_isFieldPrime_12 rfl (lv_at hl 0 rfl) ?_
      obtain ⟨r3, hr3, h⟩ := Option.bind_eq_some_iff.mp h
      refine vp_callSi (W.runS (As := [.int a0]) (rest := []) ⟨hx, hb, hml, hown, hts⟩ (ctX4_isPrime l N  a0 r3 hr3) (va_cwS 1 hts gX4_isFieldPrime_X4_isPrime rfl rfl rfl (by decide +kernel) ⟨Nat.le_of_ble_eq_true rfl, Nat.le_of_ble_eq_true rfl⟩) preEq rfl rfl hl.1 rfl (lv_room (Nat.le_of_ble_eq_true rfl)) dX4_isFieldPrime_13 ⟨Nat.le_of_ble_eq_true rfl, Nat.le_of_ble_eq_true rfl⟩) (fun q9 eq9 => ?_)
      subst eq9
      refine lv_if_eq (tgt := 23) hx hb dX4_isFieldPrime_16 (by decide) (fun c4 => ?_) (fun c4 => ?_)
      · replace h := (if_pos c4).symm.trans h
        refine lv_iconst (v := 0) hx hb dX4_isFieldPrime_23 (by decide) ?_
        have hv : 0 = rr := Option.some.inj h
        exact W.zret (v := 0) hx hb hr (by decide) (fun t ht hW => ⟨_, rfl, hv, ht⟩) (fun q hq => absurd hq List.not_mem_nil) dX4_isFieldPrime_24
      · replace h := (if_neg c4).symm.trans h
        refine lv_iconst (v := 1) hx hb dX4_isFieldPrime_19 (by decide) ?_
        refine lv_goto (tgt := 24) hx hb dX4_isFieldPrime_20 (by decide) ?_
        have hv : 1 = rr := Option.some.inj h
        exact W.zret (v := 1) hx hb hr (by decide) (fun t ht hW => ⟨_, rfl, hv, ht⟩) (fun q hq => absurd hq List.not_mem_nil) dX4_isFieldPrime_24
def mX4_isBelow (N : Nat) (a0 : Int32) (a1 : Int32) : Option (Int32) := if a0 < 0 then some 0 else if a1 ≤ a0 then some 0 else some 1
abbrev rmX4_isBelow : Room := { frames := 0, cells := 0, slots := 0, locals := 0 }
set_option maxHeartbeats 4000000 in
set_option maxRecDepth 100000 in
theorem ctX4_isBelow (l : Launch) (N : Nat) (a0 : Int32) (a1 : Int32) (rr : Int32) (h : mX4_isBelow N a0 a1 = some rr) : Met l yX4_isBelow wsX4_isBelow rmX4_isBelow (fun v _ => v = ([.int a0, .int a1] : List Value).toArray) (vp_Si (fun r => r = rr)) 0 0 (fun _ => False) := by
  refine Met.ofW (cc := cX4_isBelow) (maxL := 2) (ret := (some .boolean)) (by decide) rfl ?_
  intro p e s m args below meth c s₁ B hml hv
  subst hv
  have hx := B.exec
  have hb := B.bytes
  have hr := B.returns
  have hts := atoms_spec (ws := wsX4_isBelow) B.pre
  have hown : s.vm.findClass RX4 = some m.cls := findClass_of_methodNamed B.named
  have hlocks := B.notSynchronized
  have hl := lv_entry ([.int a0, .int a1]) (n := 2) (Nat.le_of_ble_eq_true rfl)
  rw [lg_entry_eq]
  generalize (lg_sl ([.int a0, .int a1]) ++ List.replicate (2 - (lg_sl ([.int a0, .int a1])).length) Slot.unset).toArray = ls at hl ⊢
  have hl : lv_has ls 2 [(0, .int a0), (1, .int a1)] := hl
  dsimp only [mX4_isBelow] at h
  refine lv_iload_n hx hb dX4_isBelow_0 rfl (lv_at hl 0 rfl) ?_
  refine lv_if_lt (tgt := 13) hx hb dX4_isBelow_1 (by decide) (fun c1 => ?_) (fun c1 => ?_)
  · replace h := (if_pos c1).symm.trans h
    refine lv_iconst (v := 0) hx hb dX4_isBelow_13 (by decide) ?_
    have hv : 0 = rr := Option.some.inj h
    exact W.zret (v := 0) hx hb hr (by decide) (fun t ht hW => ⟨_, rfl, hv, ht⟩) (fun q hq => absurd hq List.not_mem_nil) dX4_isBelow_14
  · replace h := (if_neg c1).symm.trans h
    refine lv_iload_n hx hb dX4_isBelow_4 rfl (lv_at hl 0 rfl) ?_
    refine lv_iload_n hx hb dX4_isBelow_5 rfl (lv_at hl 1 rfl) ?_
    refine lv_icmp_ge (tgt := 13) hx hb dX4_isBelow_6 (by decide) (fun c2 => ?_) (fun c2 => ?_)
    · replace h := (if_pos c2).symm.trans h
      refine lv_iconst (v := 0) hx hb dX4_isBelow_13 (by decide) ?_
      have hv : 0 = rr := Option.some.inj h
      exact W.zret (v := 0) hx hb hr (by decide) (fun t ht hW => ⟨_, rfl, hv, ht⟩) (fun q hq => absurd hq List.not_mem_nil) dX4_isBelow_14
    · replace h := (if_neg c2).symm.trans h
      refine lv_iconst (v := 1) hx hb dX4_isBelow_9 (by decide) ?_
      refine lv_goto (tgt := 14) hx hb dX4_isBelow_10 (by decide) ?_
      have hv : 1 = rr := Option.some.inj h
      exact W.zret (v := 1) hx hb hr (by decide) (fun t ht hW => ⟨_, rfl, hv, ht⟩) (fun q hq => absurd hq List.not_mem_nil) dX4_isBelow_14
def mX4_cubicMark (N : Nat) (a0 : Int32) (a1 : Int32) (a2 : Int32) : Option (Int32) := if a2 = 0 then none else mi_let (mi_rem (a0 * a0) a2) (fun v2 => if a2 = 0 then none else mi_let (mi_rem ((4 * v2) * a0) a2) (fun v4 => if a2 = 0 then none else mi_let (mi_rem (a1 * a1) a2) (fun v6 => if a2 = 0 then none else mi_let (mi_rem (v4 + (27 * v6)) a2) (fun v8 => some v8))))
abbrev rmX4_cubicMark : Room := { frames := 0, cells := 0, slots := 0, locals := 0 }
set_option maxHeartbeats 4000000 in
set_option maxRecDepth 100000 in
theorem ctX4_cubicMark (l : Launch) (N : Nat) (a0 : Int32) (a1 : Int32) (a2 : Int32) (rr : Int32) (h : mX4_cubicMark N a0 a1 a2 = some rr) : Met l yX4_cubicMark wsX4_cubicMark rmX4_cubicMark (fun v _ => v = ([.int a0, .int a1, .int a2] : List Value).toArray) (vp_Si (fun r => r = rr)) 0 0 (fun _ => False) := by
  refine Met.ofW (cc := cX4_cubicMark) (maxL := 3) (ret := (some .int)) (by decide) rfl ?_
  intro p e s m args below meth c s₁ B hml hv
  subst hv
  have hx := B.exec
  have hb := B.bytes
  have hr := B.returns
  have hts := atoms_spec (ws := wsX4_cubicMark) B.pre
  have hown : s.vm.findClass RX4 = some m.cls := findClass_of_methodNamed B.named
  have hlocks := B.notSynchronized
  have hl := lv_entry ([.int a0, .int a1, .int a2]) (n := 3) (Nat.le_of_ble_eq_true rfl)
  rw [lg_entry_eq]
  generalize (lg_sl ([.int a0, .int a1, .int a2]) ++ List.replicate (3 - (lg_sl ([.int a0, .int a1, .int a2])).length) Slot.unset).toArray = ls at hl ⊢
  have hl : lv_has ls 3 [(0, .int a0), (1, .int a1), (2, .int a2)] := hl
  dsimp only [mX4_cubicMark] at h
  refine lv_iconst (v := 4) hx hb dX4_cubicMark_0 (by decide) ?_
  refine lv_iload_n hx hb dX4_cubicMark_1 rfl (lv_at hl 0 rfl) ?_
  refine lv_iload_n hx hb dX4_cubicMark_2 rfl (lv_at hl 0 rfl) ?_
  refine lv_imul hx hb dX4_cubicMark_3 ?_
  refine lv_iload_n hx hb dX4_cubicMark_4 rfl (lv_at hl 2 rfl) ?_
  have hn1 : ¬ a2 = 0 := fun hz => absurd ((if_pos hz).symm.trans h) (fun hh => nomatch hh)
  replace h := (if_neg hn1).symm.trans h
  refine lv_irem hx hb dX4_cubicMark_5 hn1 ?_
  refine lv_topi (fun v2 ev2 => ?_)
  replace h := mi_use ev2 h
  refine lv_imul hx hb dX4_cubicMark_6 ?_
  refine lv_iload_n hx hb dX4_cubicMark_7 rfl (lv_at hl 0 rfl) ?_
  refine lv_imul hx hb dX4_cubicMark_8 ?_
  refine lv_iload_n hx hb dX4_cubicMark_9 rfl (lv_at hl 2 rfl) ?_
  have hn3 : ¬ a2 = 0 := fun hz => absurd ((if_pos hz).symm.trans h) (fun hh => nomatch hh)
  replace h := (if_neg hn3).symm.trans h
  refine lv_irem hx hb dX4_cubicMark_10 hn3 ?_
  refine lv_topi (fun v4 ev4 => ?_)
  replace h := mi_use ev4 h
  refine lv_bipush (v := 27) hx hb dX4_cubicMark_11 (by decide) ?_
  refine lv_iload_n hx hb dX4_cubicMark_13 rfl (lv_at hl 1 rfl) ?_
  refine lv_iload_n hx hb dX4_cubicMark_14 rfl (lv_at hl 1 rfl) ?_
  refine lv_imul hx hb dX4_cubicMark_15 ?_
  refine lv_iload_n hx hb dX4_cubicMark_16 rfl (lv_at hl 2 rfl) ?_
  have hn5 : ¬ a2 = 0 := fun hz => absurd ((if_pos hz).symm.trans h) (fun hh => nomatch hh)
  replace h := (if_neg hn5).symm.trans h
  refine lv_irem hx hb dX4_cubicMark_17 hn5 ?_
  refine lv_topi (fun v6 ev6 => ?_)
  replace h := mi_use ev6 h
  refine lv_imul hx hb dX4_cubicMark_18 ?_
  refine lv_iadd hx hb dX4_cubicMark_19 ?_
  refine lv_iload_n hx hb dX4_cubicMark_20 rfl (lv_at hl 2 rfl) ?_
  have hn7 : ¬ a2 = 0 := fun hz => absurd ((if_pos hz).symm.trans h) (fun hh => nomatch hh)
  replace h := (if_neg hn7).symm.trans h
  refine lv_irem hx hb dX4_cubicMark_21 hn7 ?_
  refine lv_topi (fun v8 ev8 => ?_)
  replace h := mi_use ev8 h
  have hv : v8 = rr := Option.some.inj h
  exact W.iret (v := v8) hx hb hr (fun t ht hW => ⟨_, rfl, hv, ht⟩) (fun q hq => absurd hq List.not_mem_nil) dX4_cubicMark_22
end
section
def mX1_init (N : Nat)  : Option (Int32 × (Nat → Int32)) := some (0, (fun _ => 0))
abbrev rmX1_init : Room := { frames := 1, cells := 1, slots := 10007, locals := 12 }
set_option maxHeartbeats 4000000 in
set_option maxRecDepth 100000 in
theorem ctX1_init (l : Launch) (N : Nat) (dC : Nat → ClassId) (dI : Nat → Nat → Nat) (sz : Nat) (h0 : Nat) (t_prime : Int32) (rr : Int32 × (Nat → Int32)) (h : mX1_init N  = some rr) : Met l yX1_init wsX1_init rmX1_init (va_Pc [.ref h0] (fun U => U.heap.size = sz ∧ va_P (dC, dI) vwCl [(h0, .inr (1, [.null, .int t_prime]))] U.heap ∧ va_K (dC, dI) vwCl [] U ∧ nw_all U ∧ va_D (fun _ => True) [(h0, .inr (1, [.null, .int t_prime]))])) (va_Qv (fun (u : Int32 × (Nat → Int32)) => u = rr) (fun (u : Int32 × (Nat → Int32)) t => match u with | (u0, u1) => ∃ q8 : Nat, ∃ k8 : ClassId, va_P (dC, dI) vwCl [(h0, .inr (1, [.ref q8, .int u0])), (q8, .inl (k8, 10007, .inl u1))] t.heap ∧ va_K (dC, dI) vwCl [(k8, .int)] t ∧ va_D (va_A [(h0, .inr (1, [.null, .int t_prime]))] sz) [(h0, .inr (1, [.ref q8, .int u0])), (q8, .inl (k8, 10007, .inl u1))]) (va_A [(h0, .inr (1, [.null, .int t_prime]))] sz)) 1 10007 (va_A [(h0, .inr (1, [.null, .int t_prime]))] sz) := by
  refine Met.ofW (cc := cX1_init) (maxL := 1) (ret := none) (by decide) rfl ?_
  intro p e s m args below meth c s₁ B hml hv
  obtain ⟨rfl, hsz, hP, hK, hN, hD0⟩ := hv
  have hx := B.exec
  have hb := B.bytes
  have hr := B.returns
  have hts := atoms_spec (ws := wsX1_init) B.pre
  have hown : s.vm.findClass RX1 = some m.cls := findClass_of_methodNamed B.named
  have hlocks := B.notSynchronized
  have hin : meth.name = "<init>" := (name_of_methodNamed B.named B.method).1
  subst hsz
  have hD := hD0.self (sz := s.heap.size)
  generalize hAe : va_A [(h0, .inr (1, [.null, .int t_prime]))] s.heap.size = A at hD ⊢
  have hA0 : ∀ q : Nat, s.heap.size ≤ q → A q := fun q h => by rw [← hAe]; exact Or.inr h
  have hS : va_S A s.heap s.heap [] := va_S.rf
  have hP : va_P (dC, dI) vwCl [(h0, .inr (1, [.null, .int t_prime]))] s.heap := hP
  have hl := lv_entry ([.ref h0]) (n := 1) (Nat.le_of_ble_eq_true rfl)
  rw [lg_entry_eq]
  generalize (lg_sl ([.ref h0]) ++ List.replicate (1 - (lg_sl ([.ref h0])).length) Slot.unset).toArray = ls at hl ⊢
  have hl : lv_has ls 1 [(0, .ref h0)] := hl
  dsimp only [mX1_init] at h
  refine lv_aload_n hx hb dX1_init_0 rfl (lv_at hl 0 rfl) ?_
  refine W.objInit hx hb hown (hts (.methodLink RX1 3 objectInit) (by decide +kernel)) (hts (.instanceMethod objectInit) (by decide +kernel)) (hts (.code objectInit ⟨#[0xb1]⟩ 1 none) (by decide +kernel)) rfl (by rw [hml]; exact hl.1) rfl dX1_init_1 (Nat.le_of_ble_eq_true rfl) (Nat.le_of_ble_eq_true rfl) ?_
  refine W.eq (g2 := F0 m 4 ls []) rfl ?_
  refine lv_aload_n hx hb dX1_init_4 rfl (lv_at hl 0 rfl) ?_
  refine lv_sipush (v := 10007) hx hb dX1_init_5 (by decide) ?_
  refine va_newa (atype := .int) (ty := .int) (N' := 10007) (a0 := (10007, .inl (fun _ => 0))) hx hb (hts (.arrayClass .int) (by decide +kernel)) rfl hK hP hD hS hA0 (mi_az 10007) (by decide +kernel) (by decide +kernel) (by decide +kernel) (by decide +kernel) (by decide +kernel) dX1_init_8 (fun q8 k8 H hK hP hD hS => ?_)
  have hP : va_P (dC, dI) vwCl [(h0, .inr (1, [.null, .int t_prime])), (q8, .inl (k8, 10007, .inl (fun _ => 0)))] H := hP
  have hD : va_D A [(h0, .inr (1, [.null, .int t_prime])), (q8, .inl (k8, 10007, .inl (fun _ => 0)))] := hD
  have hK : va_K (dC, dI) vwCl [(k8, .int)] s := hK
  refine va_putF (D := (dC, dI)) (ci := 1) (v := .ref q8) (ty := .array (.int)) (C := RX1) (T := TX1) (N := 2) hx hb hts (by decide +kernel) tyX1 tyX1_ok nmX1 hown hK hP hD hS 0 rfl rfl 0 (by decide) (hts (.fieldLink RX1 9 "PointRings$Roots" "least" "[I") (by decide +kernel)) (fun _ h9 => h9) rfl hin rfl (by decide +kernel) rfl rfl (Nat.le_of_ble_eq_true rfl) dX1_init_10 (fun H locs hP hD hS => ?_)
  have hP : va_P (dC, dI) vwCl [(h0, .inr (1, [.ref q8, .int t_prime])), (q8, .inl (k8, 10007, .inl (fun _ => 0)))] H := hP
  have hD : va_D A [(h0, .inr (1, [.ref q8, .int t_prime])), (q8, .inl (k8, 10007, .inl (fun _ => 0)))] := hD
  refine lv_aload_n hx hb dX1_init_13 rfl (lv_at hl 0 rfl) ?_
  refine lv_iconst (v := 0) hx hb dX1_init_14 (by decide) ?_
  refine va_put (D := (dC, dI)) (ci := 1) (v := .int 0) (ty := .int) (C := RX1) (T := TX1) (N := 2) hx hb hts (by decide +kernel) tyX1 tyX1_ok nmX1 hown hK hP hD hS 0 rfl rfl 1 (by decide) (hts (.fieldLink RX1 15 "PointRings$Roots" "prime" "I") (by decide +kernel)) (fun _ h9 => h9) rfl (by decide +kernel) rfl rfl (Nat.le_of_ble_eq_true rfl) dX1_init_15 (fun H locs hP hD hS => ?_)
  have hP : va_P (dC, dI) vwCl [(h0, .inr (1, [.ref q8, .int 0])), (q8, .inl (k8, 10007, .inl (fun _ => 0)))] H := hP
  have hD : va_D A [(h0, .inr (1, [.ref q8, .int 0])), (q8, .inl (k8, 10007, .inl (fun _ => 0)))] := hD
  have hv : (0, (fun _ => 0)) = rr := Option.some.inj h
  have hP9 := hP.sub (ws' := [(h0, .inr (1, [.ref q8, .int 0])), (q8, .inl (k8, 10007, .inl (fun _ => 0)))]) [0, 1] rfl
  have hD9 := hD.sub (ws' := [(h0, .inr (1, [.ref q8, .int 0])), (q8, .inl (k8, 10007, .inl (fun _ => 0)))]) [0, 1] (by decide) rfl
  have hK9 := hK.sub (tys' := [(k8, .int)]) [0] rfl
  refine W.widen (k := 1) (n := 10007) (by decide +kernel) (by decide +kernel) ?_
  exact W.vret hx hb hr (fun t ht hW => ⟨⟨(0, (fun _ => 0)), rfl, hv, q8, k8, by rw [ht]; exact hP9, va_K.moved hW.alike hK9, hD9⟩, hS.F ht⟩) hS.2.2 dX1_init_18
end
section
def mX2_init (N : Nat)  : Option (Int32 × Int32 × (Nat → Int32) × (Nat → Int32)) := some (1, (-1), (fun _ => 0), (fun _ => 0))
abbrev rmX2_init : Room := { frames := 1, cells := 2, slots := 10135, locals := 12 }
set_option maxHeartbeats 4000000 in
set_option maxRecDepth 100000 in
theorem ctX2_init (l : Launch) (N : Nat) (dC : Nat → ClassId) (dI : Nat → Nat → Nat) (sz : Nat) (h0 : Nat) (t_order : Int32) (t_reach : Int32) (t_back : Int32) (rr : Int32 × Int32 × (Nat → Int32) × (Nat → Int32)) (h : mX2_init N  = some rr) : Met l yX2_init wsX2_init rmX2_init (va_Pc [.ref h0] (fun U => U.heap.size = sz ∧ va_P (dC, dI) vwCl [(h0, .inr (2, [.null, .null, .null, .int t_order, .int t_reach, .int t_back]))] U.heap ∧ va_K (dC, dI) vwCl [] U ∧ nw_all U ∧ va_D (fun _ => True) [(h0, .inr (2, [.null, .null, .null, .int t_order, .int t_reach, .int t_back]))])) (va_Qv (fun (u : Int32 × Int32 × (Nat → Int32) × (Nat → Int32)) => u = rr) (fun (u : Int32 × Int32 × (Nat → Int32) × (Nat → Int32)) t => match u with | (u0, u1, u2, u3) => ∃ q8 : Nat, ∃ k8 : ClassId, ∃ q17 : Nat, ∃ k17 : ClassId, va_P (dC, dI) vwCl [(h0, .inr (2, [.ref q8, .ref q17, .null, .int u0, .int t_reach, .int u1])), (q8, .inl (k8, 10007, .inl u2)), (q17, .inl (k17, 128, .inl u3))] t.heap ∧ va_K (dC, dI) vwCl [(k8, .int), (k17, .int)] t ∧ va_D (va_A [(h0, .inr (2, [.null, .null, .null, .int t_order, .int t_reach, .int t_back]))] sz) [(h0, .inr (2, [.ref q8, .ref q17, .null, .int u0, .int t_reach, .int u1])), (q8, .inl (k8, 10007, .inl u2)), (q17, .inl (k17, 128, .inl u3))]) (va_A [(h0, .inr (2, [.null, .null, .null, .int t_order, .int t_reach, .int t_back]))] sz)) 2 10135 (va_A [(h0, .inr (2, [.null, .null, .null, .int t_order, .int t_reach, .int t_back]))] sz) := by
  refine Met.ofW (cc := cX2_init) (maxL := 1) (ret := none) (by decide) rfl ?_
  intro p e s m args below meth c s₁ B hml hv
  obtain ⟨rfl, hsz, hP, hK, hN, hD0⟩ := hv
  have hx := B.exec
  have hb := B.bytes
  have hr := B.returns
  have hts := atoms_spec (ws := wsX2_init) B.pre
  have hown : s.vm.findClass RX2 = some m.cls := findClass_of_methodNamed B.named
  have hlocks := B.notSynchronized
  have hin : meth.name = "<init>" := (name_of_methodNamed B.named B.method).1
  subst hsz
  have hD := hD0.self (sz := s.heap.size)
  generalize hAe : va_A [(h0, .inr (2, [.null, .null, .null, .int t_order, .int t_reach, .int t_back]))] s.heap.size = A at hD ⊢
  have hA0 : ∀ q : Nat, s.heap.size ≤ q → A q := fun q h => by rw [← hAe]; exact Or.inr h
  have hS : va_S A s.heap s.heap [] := va_S.rf
  have hP : va_P (dC, dI) vwCl [(h0, .inr (2, [.null, .null, .null, .int t_order, .int t_reach, .int t_back]))] s.heap := hP
  have hl := lv_entry ([.ref h0]) (n := 1) (Nat.le_of_ble_eq_true rfl)
  rw [lg_entry_eq]
  generalize (lg_sl ([.ref h0]) ++ List.replicate (1 - (lg_sl ([.ref h0])).length) Slot.unset).toArray = ls at hl ⊢
  have hl : lv_has ls 1 [(0, .ref h0)] := hl
  dsimp only [mX2_init] at h
  refine lv_aload_n hx hb dX2_init_0 rfl (lv_at hl 0 rfl) ?_
  refine W.objInit hx hb hown (hts (.methodLink RX2 3 objectInit) (by decide +kernel)) (hts (.instanceMethod objectInit) (by decide +kernel)) (hts (.code objectInit ⟨#[0xb1]⟩ 1 none) (by decide +kernel)) rfl (by rw [hml]; exact hl.1) rfl dX2_init_1 (Nat.le_of_ble_eq_true rfl) (Nat.le_of_ble_eq_true rfl) ?_
  refine W.eq (g2 := F0 m 4 ls []) rfl ?_
  refine lv_aload_n hx hb dX2_init_4 rfl (lv_at hl 0 rfl) ?_
  refine lv_sipush (v := 10007) hx hb dX2_init_5 (by decide) ?_
  refine va_newa (atype := .int) (ty := .int) (N' := 10007) (a0 := (10007, .inl (fun _ => 0))) hx hb (hts (.arrayClass .int) (by decide +kernel)) rfl hK hP hD hS hA0 (mi_az 10007) (by decide +kernel) (by decide +kernel) (by decide +kernel) (by decide +kernel) (by decide +kernel) dX2_init_8 (fun q8 k8 H hK hP hD hS => ?_)
  have hP : va_P (dC, dI) vwCl [(h0, .inr (2, [.null, .null, .null, .int t_order, .int t_reach, .int t_back])), (q8, .inl (k8, 10007, .inl (fun _ => 0)))] H := hP
  have hD : va_D A [(h0, .inr (2, [.null, .null, .null, .int t_order, .int t_reach, .int t_back])), (q8, .inl (k8, 10007, .inl (fun _ => 0)))] := hD
  have hK : va_K (dC, dI) vwCl [(k8, .int)] s := hK
  refine va_putF (D := (dC, dI)) (ci := 2) (v := .ref q8) (ty := .array (.int)) (C := RX2) (T := TX2) (N := 6) hx hb hts (by decide +kernel) tyX2 tyX2_ok nmX2 hown hK hP hD hS 0 rfl rfl 0 (by decide) (hts (.fieldLink RX2 9 "PointRings$Strides" "stepAt" "[I") (by decide +kernel)) (fun _ h9 => h9) rfl hin rfl (by decide +kernel) rfl rfl (Nat.le_of_ble_eq_true rfl) dX2_init_10 (fun H locs hP hD hS => ?_)
  have hP : va_P (dC, dI) vwCl [(h0, .inr (2, [.ref q8, .null, .null, .int t_order, .int t_reach, .int t_back])), (q8, .inl (k8, 10007, .inl (fun _ => 0)))] H := hP
  have hD : va_D A [(h0, .inr (2, [.ref q8, .null, .null, .int t_order, .int t_reach, .int t_back])), (q8, .inl (k8, 10007, .inl (fun _ => 0)))] := hD
  refine lv_aload_n hx hb dX2_init_13 rfl (lv_at hl 0 rfl) ?_
  refine lv_sipush (v := 128) hx hb dX2_init_14 (by decide) ?_
  refine va_newa (atype := .int) (ty := .int) (N' := 128) (a0 := (128, .inl (fun _ => 0))) hx hb (hts (.arrayClass .int) (by decide +kernel)) rfl hK hP hD hS hA0 (mi_az 128) (by decide +kernel) (by decide +kernel) (by decide +kernel) (by decide +kernel) (by decide +kernel) dX2_init_17 (fun q17 k17 H hK hP hD hS => ?_)
  have hP : va_P (dC, dI) vwCl [(h0, .inr (2, [.ref q8, .null, .null, .int t_order, .int t_reach, .int t_back])), (q8, .inl (k8, 10007, .inl (fun _ => 0))), (q17, .inl (k17, 128, .inl (fun _ => 0)))] H := hP
  have hD : va_D A [(h0, .inr (2, [.ref q8, .null, .null, .int t_order, .int t_reach, .int t_back])), (q8, .inl (k8, 10007, .inl (fun _ => 0))), (q17, .inl (k17, 128, .inl (fun _ => 0)))] := hD
  have hK : va_K (dC, dI) vwCl [(k8, .int), (k17, .int)] s := hK
  refine va_putF (D := (dC, dI)) (ci := 2) (v := .ref q17) (ty := .array (.int)) (C := RX2) (T := TX2) (N := 6) hx hb hts (by decide +kernel) tyX2 tyX2_ok nmX2 hown hK hP hD hS 0 rfl rfl 1 (by decide) (hts (.fieldLink RX2 15 "PointRings$Strides" "ends" "[I") (by decide +kernel)) (fun _ h9 => h9) rfl hin rfl (by decide +kernel) rfl rfl (Nat.le_of_ble_eq_true rfl) dX2_init_19 (fun H locs hP hD hS => ?_)
  have hP : va_P (dC, dI) vwCl [(h0, .inr (2, [.ref q8, .ref q17, .null, .int t_order, .int t_reach, .int t_back])), (q8, .inl (k8, 10007, .inl (fun _ => 0))), (q17, .inl (k17, 128, .inl (fun _ => 0)))] H := hP
  have hD : va_D A [(h0, .inr (2, [.ref q8, .ref q17, .null, .int t_order, .int t_reach, .int t_back])), (q8, .inl (k8, 10007, .inl (fun _ => 0))), (q17, .inl (k17, 128, .inl (fun _ => 0)))] := hD
  refine lv_aload_n hx hb dX2_init_22 rfl (lv_at hl 0 rfl) ?_
  refine lv_iconst (v := 1) hx hb dX2_init_23 (by decide) ?_
  refine va_put (D := (dC, dI)) (ci := 2) (v := .int 1) (ty := .int) (C := RX2) (T := TX2) (N := 6) hx hb hts (by decide +kernel) tyX2 tyX2_ok nmX2 hown hK hP hD hS 0 rfl rfl 3 (by decide) (hts (.fieldLink RX2 18 "PointRings$Strides" "order" "I") (by decide +kernel)) (fun _ h9 => h9) rfl (by decide +kernel) rfl rfl (Nat.le_of_ble_eq_true rfl) dX2_init_24 (fun H locs hP hD hS => ?_)
  have hP : va_P (dC, dI) vwCl [(h0, .inr (2, [.ref q8, .ref q17, .null, .int 1, .int t_reach, .int t_back])), (q8, .inl (k8, 10007, .inl (fun _ => 0))), (q17, .inl (k17, 128, .inl (fun _ => 0)))] H := hP
  have hD : va_D A [(h0, .inr (2, [.ref q8, .ref q17, .null, .int 1, .int t_reach, .int t_back])), (q8, .inl (k8, 10007, .inl (fun _ => 0))), (q17, .inl (k17, 128, .inl (fun _ => 0)))] := hD
  refine lv_aload_n hx hb dX2_init_27 rfl (lv_at hl 0 rfl) ?_
  refine lv_iconst (v := (-1)) hx hb dX2_init_28 (by decide) ?_
  refine va_put (D := (dC, dI)) (ci := 2) (v := .int (-1)) (ty := .int) (C := RX2) (T := TX2) (N := 6) hx hb hts (by decide +kernel) tyX2 tyX2_ok nmX2 hown hK hP hD hS 0 rfl rfl 5 (by decide) (hts (.fieldLink RX2 22 "PointRings$Strides" "back" "I") (by decide +kernel)) (fun _ h9 => h9) rfl (by decide +kernel) rfl rfl (Nat.le_of_ble_eq_true rfl) dX2_init_29 (fun H locs hP hD hS => ?_)
  have hP : va_P (dC, dI) vwCl [(h0, .inr (2, [.ref q8, .ref q17, .null, .int 1, .int t_reach, .int (-1)])), (q8, .inl (k8, 10007, .inl (fun _ => 0))), (q17, .inl (k17, 128, .inl (fun _ => 0)))] H := hP
  have hD : va_D A [(h0, .inr (2, [.ref q8, .ref q17, .null, .int 1, .int t_reach, .int (-1)])), (q8, .inl (k8, 10007, .inl (fun _ => 0))), (q17, .inl (k17, 128, .inl (fun _ => 0)))] := hD
  have hv : (1, (-1), (fun _ => 0), (fun _ => 0)) = rr := Option.some.inj h
  have hP9 := hP.sub (ws' := [(h0, .inr (2, [.ref q8, .ref q17, .null, .int 1, .int t_reach, .int (-1)])), (q8, .inl (k8, 10007, .inl (fun _ => 0))), (q17, .inl (k17, 128, .inl (fun _ => 0)))]) [0, 1, 2] rfl
  have hD9 := hD.sub (ws' := [(h0, .inr (2, [.ref q8, .ref q17, .null, .int 1, .int t_reach, .int (-1)])), (q8, .inl (k8, 10007, .inl (fun _ => 0))), (q17, .inl (k17, 128, .inl (fun _ => 0)))]) [0, 1, 2] (by decide) rfl
  have hK9 := hK.sub (tys' := [(k8, .int), (k17, .int)]) [0, 1] rfl
  refine W.widen (k := 2) (n := 10135) (by decide +kernel) (by decide +kernel) ?_
  exact W.vret hx hb hr (fun t ht hW => ⟨⟨(1, (-1), (fun _ => 0), (fun _ => 0)), rfl, hv, q8, k8, q17, k17, by rw [ht]; exact hP9, va_K.moved hW.alike hK9, hD9⟩, hS.F ht⟩) hS.2.2 dX2_init_32
end
section
def mX3_init (N : Nat)  : Option (Int32 × Int32 × Int32 × (Nat → Int32) × (Nat → Int32) × (Nat → Int32)) := (mX2_init N ).bind (fun r1 => match r1 with | (u2, u3, f4, f5) => some (u2, 0, u3, f4, f5, (fun _ => 0)))
abbrev rmX3_init : Room := { frames := 2, cells := 4, slots := 10145, locals := 32 }
set_option maxHeartbeats 4000000 in
set_option maxRecDepth 100000 in
theorem ctX3_init (l : Launch) (N : Nat) (dC : Nat → ClassId) (dI : Nat → Nat → Nat) (sz : Nat) (h0 : Nat) (h1 : Nat) (rr : Int32 × Int32 × Int32 × (Nat → Int32) × (Nat → Int32) × (Nat → Int32)) (h : mX3_init N  = some rr) : Met l yX3_init wsX3_init rmX3_init (va_Pc [.ref h0, .ref h1] (fun U => U.heap.size = sz ∧ va_P (dC, dI) vwCl [(h0, .inr (3, [.null, .null, .null]))] U.heap ∧ va_K (dC, dI) vwCl [] U ∧ nw_all U ∧ va_D (fun _ => True) [(h0, .inr (3, [.null, .null, .null]))])) (va_Qv (fun (u : Int32 × Int32 × Int32 × (Nat → Int32) × (Nat → Int32) × (Nat → Int32)) => u = rr) (fun (u : Int32 × Int32 × Int32 × (Nat → Int32) × (Nat → Int32) × (Nat → Int32)) t => match u with | (u0, u1, u2, u3, u4, u5) => ∃ q10 : Nat, ∃ q8_14 : Nat, ∃ k8_14 : ClassId, ∃ q17_14 : Nat, ∃ k17_14 : ClassId, ∃ q22 : Nat, ∃ k22 : ClassId, va_P (dC, dI) vwCl [(h0, .inr (3, [.ref h1, .ref q10, .ref q22])), (q10, .inr (2, [.ref q8_14, .ref q17_14, .null, .int u0, .int u1, .int u2])), (q8_14, .inl (k8_14, 10007, .inl u3)), (q17_14, .inl (k17_14, 128, .inl u4)), (q22, .inl (k22, 4, .inl u5))] t.heap ∧ va_K (dC, dI) vwCl [(k8_14, .int), (k17_14, .int), (k22, .int)] t ∧ va_D (va_A [(h0, .inr (3, [.null, .null, .null]))] sz) [(h0, .inr (3, [.ref h1, .ref q10, .ref q22])), (q10, .inr (2, [.ref q8_14, .ref q17_14, .null, .int u0, .int u1, .int u2])), (q8_14, .inl (k8_14, 10007, .inl u3)), (q17_14, .inl (k17_14, 128, .inl u4)), (q22, .inl (k22, 4, .inl u5))]) (va_A [(h0, .inr (3, [.null, .null, .null]))] sz)) 4 10145 (va_A [(h0, .inr (3, [.null, .null, .null]))] sz) := by
  refine Met.ofW (cc := cX3_init) (maxL := 2) (ret := none) (by decide) rfl ?_
  intro p e s m args below meth c s₁ B hml hv
  obtain ⟨rfl, hsz, hP, hK, hN, hD0⟩ := hv
  have hx := B.exec
  have hb := B.bytes
  have hr := B.returns
  have hts := atoms_spec (ws := wsX3_init) B.pre
  have hown : s.vm.findClass RX3 = some m.cls := findClass_of_methodNamed B.named
  have hlocks := B.notSynchronized
  have hin : meth.name = "<init>" := (name_of_methodNamed B.named B.method).1
  subst hsz
  have hD := hD0.self (sz := s.heap.size)
  generalize hAe : va_A [(h0, .inr (3, [.null, .null, .null]))] s.heap.size = A at hD ⊢
  have hA0 : ∀ q : Nat, s.heap.size ≤ q → A q := fun q h => by rw [← hAe]; exact Or.inr h
  have hS : va_S A s.heap s.heap [] := va_S.rf
  have hP : va_P (dC, dI) vwCl [(h0, .inr (3, [.null, .null, .null]))] s.heap := hP
  have hl := lv_entry ([.ref h0, .ref h1]) (n := 2) (Nat.le_of_ble_eq_true rfl)
  rw [lg_entry_eq]
  generalize (lg_sl ([.ref h0, .ref h1]) ++ List.replicate (2 - (lg_sl ([.ref h0, .ref h1])).length) Slot.unset).toArray = ls at hl ⊢
  have hl : lv_has ls 2 [(0, .ref h0), (1, .ref h1)] := hl
  dsimp only [mX3_init] at h
  refine lv_aload_n hx hb dX3_init_0 rfl (lv_at hl 0 rfl) ?_
  refine W.objInit hx hb hown (hts (.methodLink RX3 3 objectInit) (by decide +kernel)) (hts (.instanceMethod objectInit) (by decide +kernel)) (hts (.code objectInit ⟨#[0xb1]⟩ 1 none) (by decide +kernel)) rfl (by rw [hml]; exact hl.1) rfl dX3_init_1 (Nat.le_of_ble_eq_true rfl) (Nat.le_of_ble_eq_true rfl) ?_
  refine W.eq (g2 := F0 m 4 ls []) rfl ?_
  refine lv_aload_n hx hb dX3_init_4 rfl (lv_at hl 0 rfl) ?_
  refine lv_aload_n hx hb dX3_init_5 rfl (lv_at hl 1 rfl) ?_
  refine va_putF (D := (dC, dI)) (ci := 3) (v := .ref h1) (ty := .object "PointRings$Roots") (C := RX3) (T := TX3) (N := 3) hx hb hts (by decide +kernel) tyX3 tyX3_ok nmX3 hown hK hP hD hS 0 rfl rfl 0 (by decide) (hts (.fieldLink RX3 9 "PointRings$Survey" "roots" "LPointRings$Roots;") (by decide +kernel)) (fun _ h9 => h9) rfl hin rfl (by decide +kernel) rfl rfl (Nat.le_of_ble_eq_true rfl) dX3_init_6 (fun H locs hP hD hS => ?_)
  have hP : va_P (dC, dI) vwCl [(h0, .inr (3, [.ref h1, .null, .null]))] H := hP
  have hD : va_D A [(h0, .inr (3, [.ref h1, .null, .null]))] := hD
  refine lv_aload_n hx hb dX3_init_9 rfl (lv_at hl 0 rfl) ?_
  refine va_new (ci := 2) (fs := [.null, .null, .null, .int 0, .int 0, .int 0]) (C := RX2) (T := TX2) (N := 6) hx hb hts (by decide +kernel) tyX2 tyX2_ok hown (hts (.classLink RX3 15 RX2) (by decide +kernel)) (hts (.instantiable RX2 6) (by decide +kernel)) (hts (.initialized RX2) (by decide +kernel)) hK hP hD hS hA0 rfl (fun j hj => by rcases (show j = 0 ∨ j = 1 ∨ j = 2 ∨ j = 3 ∨ j = 4 ∨ j = 5 by omega) with rfl | rfl | rfl | rfl | rfl | rfl <;> rfl) (by decide +kernel) (by decide +kernel) dX3_init_10 (fun q10 H hP hD hS => ?_)
  have hP : va_P (dC, dI) vwCl [(h0, .inr (3, [.ref h1, .null, .null])), (q10, .inr (2, [.null, .null, .null, .int 0, .int 0, .int 0]))] H := hP
  have hD : va_D A [(h0, .inr (3, [.ref h1, .null, .null])), (q10, .inr (2, [.null, .null, .null, .int 0, .int 0, .int 0]))] := hD
  refine lv_dup hx hb dX3_init_13 rfl ?_
  obtain ⟨r1, hr1, h⟩ := Option.bind_eq_some_iff.mp h
  have hPc := hP.sub (ws' := [(q10, .inr (2, [.null, .null, .null, .int 0, .int 0, .int 0]))]) [1] rfl
  have hDc := hD.sub (ws' := [(q10, .inr (2, [.null, .null, .null, .int 0, .int 0, .int 0]))]) [1] (by decide) rfl
  have hKc := hK.sub (tys' := []) [] rfl
  have hFc := va_free (wc := [(q10, .inr (2, [.null, .null, .null, .int 0, .int 0, .int 0]))]) hD hS hA0 [1] rfl
  refine va_callv (va_runI (As := []) (rest := [.ref q10, .ref h0]) ⟨hx, hb, hml, hown, hts⟩ (ctX2_init l N dC dI _ q10 0 0 0 r1 hr1) (cwI 0 hts gX3_init_X2_init rfl rfl rfl (hts (.initialized RX2) (by decide +kernel)) (hts (.methodLink RX3 17 yX2_init) (by decide +kernel)) (hts (.instanceMethod yX2_init) (by decide +kernel)) rfl (by decide +kernel) ⟨Nat.le_of_ble_eq_true rfl, Nat.le_of_ble_eq_true rfl⟩) ⟨fun a U g mk q => by obtain ⟨q0, q1, qP, qK, qN, qD⟩ := q; exact ⟨q0, q1, qP, va_K.moved (u := U) (U := U.calling g mk a) (Vm.Alike.refl U.vm) qK, nw_same (u := U) (U := U.calling g mk a) rfl qN, qD⟩, fun U hU hW => ⟨rfl, by rw [hU], by rw [hU]; exact hPc, va_K.moved hW.alike hKc, nw_warm hW hN, hDc.weaken (fun _ _ _ _ => trivial)⟩⟩ rfl rfl hl.1 rfl (lv_room (Nat.le_of_ble_eq_true rfl)) dX3_init_14 ⟨by decide +kernel, by decide +kernel⟩) hS (fun q _ h => hFc q h) hFc (fun u t H1 locs ht hvm hw hB1 hz1 hk1 hS => ?_)
  obtain ⟨u2, u3, f4, f5⟩ := u
  obtain ⟨q8_14, k8_14, q17_14, k17_14, hP1, hK1, hD1⟩ := hB1
  rw [ht] at hP1
  have hK1 := va_K.moved hvm.symm hK1
  subst hw
  dsimp only at h
  obtain ⟨hP, hD⟩ := va_join (wr := [(h0, .inr (3, [.ref h1, .null, .null]))]) (w1 := [(q10, .inr (2, [.ref q8_14, .ref q17_14, .null, .int u2, .int 0, .int u3])), (q8_14, .inl (k8_14, 10007, .inl f4)), (q17_14, .inl (k17_14, 128, .inl f5))]) hP hD [1] [0] rfl rfl (by decide) (by decide) hk1 hFc hP1 hD1
  generalize H1 = H at hP hS ⊢
  have hP := hP.sub (ws' := [(h0, .inr (3, [.ref h1, .null, .null])), (q10, .inr (2, [.ref q8_14, .ref q17_14, .null, .int u2, .int 0, .int u3])), (q8_14, .inl (k8_14, 10007, .inl f4)), (q17_14, .inl (k17_14, 128, .inl f5))]) [0, 1, 2, 3] rfl
  have hD := hD.sub (ws' := [(h0, .inr (3, [.ref h1, .null, .null])), (q10, .inr (2, [.ref q8_14, .ref q17_14, .null, .int u2, .int 0, .int u3])), (q8_14, .inl (k8_14, 10007, .inl f4)), (q17_14, .inl (k17_14, 128, .inl f5))]) [0, 1, 2, 3] (by decide) rfl
  have hK := (hK.app hK1).sub (tys' := [(k8_14, .int), (k17_14, .int)]) [0, 1] rfl
  refine va_putF (D := (dC, dI)) (ci := 3) (v := .ref q10) (ty := .object "PointRings$Strides") (C := RX3) (T := TX3) (N := 3) hx hb hts (by decide +kernel) tyX3 tyX3_ok nmX3 hown hK hP hD hS 0 rfl rfl 1 (by decide) (hts (.fieldLink RX3 18 "PointRings$Survey" "strides" "LPointRings$Strides;") (by decide +kernel)) (fun _ h9 => h9) rfl hin rfl (by decide +kernel) rfl rfl (Nat.le_of_ble_eq_true rfl) dX3_init_17 (fun H locs hP hD hS => ?_)
  have hP : va_P (dC, dI) vwCl [(h0, .inr (3, [.ref h1, .ref q10, .null])), (q10, .inr (2, [.ref q8_14, .ref q17_14, .null, .int u2, .int 0, .int u3])), (q8_14, .inl (k8_14, 10007, .inl f4)), (q17_14, .inl (k17_14, 128, .inl f5))] H := hP
  have hD : va_D A [(h0, .inr (3, [.ref h1, .ref q10, .null])), (q10, .inr (2, [.ref q8_14, .ref q17_14, .null, .int u2, .int 0, .int u3])), (q8_14, .inl (k8_14, 10007, .inl f4)), (q17_14, .inl (k17_14, 128, .inl f5))] := hD
  refine lv_aload_n hx hb dX3_init_20 rfl (lv_at hl 0 rfl) ?_
  refine lv_iconst (v := 4) hx hb dX3_init_21 (by decide) ?_
  refine va_newa (atype := .int) (ty := .int) (N' := 4) (a0 := (4, .inl (fun _ => 0))) hx hb (hts (.arrayClass .int) (by decide +kernel)) rfl hK hP hD hS hA0 (mi_az 4) (by decide +kernel) (by decide +kernel) (by decide +kernel) (by decide +kernel) (by decide +kernel) dX3_init_22 (fun q22 k22 H hK hP hD hS => ?_)
  have hP : va_P (dC, dI) vwCl [(h0, .inr (3, [.ref h1, .ref q10, .null])), (q10, .inr (2, [.ref q8_14, .ref q17_14, .null, .int u2, .int 0, .int u3])), (q8_14, .inl (k8_14, 10007, .inl f4)), (q17_14, .inl (k17_14, 128, .inl f5)), (q22, .inl (k22, 4, .inl (fun _ => 0)))] H := hP
  have hD : va_D A [(h0, .inr (3, [.ref h1, .ref q10, .null])), (q10, .inr (2, [.ref q8_14, .ref q17_14, .null, .int u2, .int 0, .int u3])), (q8_14, .inl (k8_14, 10007, .inl f4)), (q17_14, .inl (k17_14, 128, .inl f5)), (q22, .inl (k22, 4, .inl (fun _ => 0)))] := hD
  have hK : va_K (dC, dI) vwCl [(k8_14, .int), (k17_14, .int), (k22, .int)] s := hK
  refine va_putF (D := (dC, dI)) (ci := 3) (v := .ref q22) (ty := .array (.int)) (C := RX3) (T := TX3) (N := 3) hx hb hts (by decide +kernel) tyX3 tyX3_ok nmX3 hown hK hP hD hS 0 rfl rfl 2 (by decide) (hts (.fieldLink RX3 22 "PointRings$Survey" "halvesFound" "[I") (by decide +kernel)) (fun _ h9 => h9) rfl hin rfl (by decide +kernel) rfl rfl (Nat.le_of_ble_eq_true rfl) dX3_init_24 (fun H locs hP hD hS => ?_)
  have hP : va_P (dC, dI) vwCl [(h0, .inr (3, [.ref h1, .ref q10, .ref q22])), (q10, .inr (2, [.ref q8_14, .ref q17_14, .null, .int u2, .int 0, .int u3])), (q8_14, .inl (k8_14, 10007, .inl f4)), (q17_14, .inl (k17_14, 128, .inl f5)), (q22, .inl (k22, 4, .inl (fun _ => 0)))] H := hP
  have hD : va_D A [(h0, .inr (3, [.ref h1, .ref q10, .ref q22])), (q10, .inr (2, [.ref q8_14, .ref q17_14, .null, .int u2, .int 0, .int u3])), (q8_14, .inl (k8_14, 10007, .inl f4)), (q17_14, .inl (k17_14, 128, .inl f5)), (q22, .inl (k22, 4, .inl (fun _ => 0)))] := hD
  have hv : (u2, 0, u3, f4, f5, (fun _ => 0)) = rr := Option.some.inj h
  have hP9 := hP.sub (ws' := [(h0, .inr (3, [.ref h1, .ref q10, .ref q22])), (q10, .inr (2, [.ref q8_14, .ref q17_14, .null, .int u2, .int 0, .int u3])), (q8_14, .inl (k8_14, 10007, .inl f4)), (q17_14, .inl (k17_14, 128, .inl f5)), (q22, .inl (k22, 4, .inl (fun _ => 0)))]) [0, 1, 2, 3, 4] rfl
  have hD9 := hD.sub (ws' := [(h0, .inr (3, [.ref h1, .ref q10, .ref q22])), (q10, .inr (2, [.ref q8_14, .ref q17_14, .null, .int u2, .int 0, .int u3])), (q8_14, .inl (k8_14, 10007, .inl f4)), (q17_14, .inl (k17_14, 128, .inl f5)), (q22, .inl (k22, 4, .inl (fun _ => 0)))]) [0, 1, 2, 3, 4] (by decide) rfl
  have hK9 := hK.sub (tys' := [(k8_14, .int), (k17_14, .int), (k22, .int)]) [0, 1, 2] rfl
  refine W.widen (k := 4) (n := 10145) (by decide +kernel) (by decide +kernel) ?_
  exact W.vret hx hb hr (fun t ht hW => ⟨⟨(u2, 0, u3, f4, f5, (fun _ => 0)), rfl, hv, q10, q8_14, k8_14, q17_14, k17_14, q22, k22, by rw [ht]; exact hP9, va_K.moved hW.alike hK9, hD9⟩, hS.F ht⟩) hS.2.2 dX3_init_27
end
section
def mX5_init (N : Nat)  : Option (Int32 × (Nat → Option Nat) × Int32 × (Nat → Int32) × Int32 × Int32 × Int32 × (Nat → Int32) × (Nat → Int32) × (Nat → Int32)) := (mX1_init N ).bind (fun r1 => match r1 with | (u2, f3) => (mX3_init N ).bind (fun r4 => match r4 with | (u5, u6, u7, f8, f9, f10) => some (0, (fun _ => none), u2, f3, u5, u6, u7, f8, f9, f10)))
abbrev rmX5_init : Room := { frames := 3, cells := 8, slots := 20181, locals := 53 }
set_option maxHeartbeats 4000000 in
set_option maxRecDepth 100000 in
theorem ctX5_init (l : Launch) (N : Nat) (dC : Nat → ClassId) (dI : Nat → Nat → Nat) (sz : Nat) (h0 : Nat) (t_size : Int32) (rr : Int32 × (Nat → Option Nat) × Int32 × (Nat → Int32) × Int32 × Int32 × Int32 × (Nat → Int32) × (Nat → Int32) × (Nat → Int32)) (h : mX5_init N  = some rr) : Met l yX5_init wsX5_init rmX5_init (va_Pc [.ref h0] (fun U => U.heap.size = sz ∧ va_P (dC, dI) vwCl [(h0, .inr (4, [.null, .int t_size, .null, .null]))] U.heap ∧ va_K (dC, dI) vwCl [] U ∧ nw_all U ∧ va_D (fun _ => True) [(h0, .inr (4, [.null, .int t_size, .null, .null]))])) (va_Qv (fun (u : Int32 × (Nat → Option Nat) × Int32 × (Nat → Int32) × Int32 × Int32 × Int32 × (Nat → Int32) × (Nat → Int32) × (Nat → Int32)) => u = rr) (fun (u : Int32 × (Nat → Option Nat) × Int32 × (Nat → Int32) × Int32 × Int32 × Int32 × (Nat → Int32) × (Nat → Int32) × (Nat → Int32)) t => match u with | (u0, u1, u2, u3, u4, u5, u6, u7, u8, u9) => ∃ q7 : Nat, ∃ k7 : ClassId, ∃ q19 : Nat, ∃ q8_23 : Nat, ∃ k8_23 : ClassId, ∃ q30 : Nat, ∃ q10_38 : Nat, ∃ q8_14_38 : Nat, ∃ k8_14_38 : ClassId, ∃ q17_14_38 : Nat, ∃ k17_14_38 : ClassId, ∃ q22_38 : Nat, ∃ k22_38 : ClassId, va_P (dC, dI) vwCl [(h0, .inr (4, [.ref q7, .int u0, .ref q19, .ref q30])), (q7, .inl (k7, 24, .inr (.inr (.inr (.inr u1))))), (q19, .inr (1, [.ref q8_23, .int u2])), (q8_23, .inl (k8_23, 10007, .inl u3)), (q30, .inr (3, [.ref q19, .ref q10_38, .ref q22_38])), (q10_38, .inr (2, [.ref q8_14_38, .ref q17_14_38, .null, .int u4, .int u5, .int u6])), (q8_14_38, .inl (k8_14_38, 10007, .inl u7)), (q17_14_38, .inl (k17_14_38, 128, .inl u8)), (q22_38, .inl (k22_38, 4, .inl u9))] t.heap ∧ va_K (dC, dI) vwCl [(k7, .object "PointRings$Curve"), (k8_23, .int), (k8_14_38, .int), (k17_14_38, .int), (k22_38, .int)] t ∧ va_D (va_A [(h0, .inr (4, [.null, .int t_size, .null, .null]))] sz) [(h0, .inr (4, [.ref q7, .int u0, .ref q19, .ref q30])), (q7, .inl (k7, 24, .inr (.inr (.inr (.inr u1))))), (q19, .inr (1, [.ref q8_23, .int u2])), (q8_23, .inl (k8_23, 10007, .inl u3)), (q30, .inr (3, [.ref q19, .ref q10_38, .ref q22_38])), (q10_38, .inr (2, [.ref q8_14_38, .ref q17_14_38, .null, .int u4, .int u5, .int u6])), (q8_14_38, .inl (k8_14_38, 10007, .inl u7)), (q17_14_38, .inl (k17_14_38, 128, .inl u8)), (q22_38, .inl (k22_38, 4, .inl u9))]) (va_A [(h0, .inr (4, [.null, .int t_size, .null, .null]))] sz)) 8 20181 (va_A [(h0, .inr (4, [.null, .int t_size, .null, .null]))] sz) := by
  refine Met.ofW (cc := cX5_init) (maxL := 1) (ret := none) (by decide) rfl ?_
  intro p e s m args below meth c s₁ B hml hv
  obtain ⟨rfl, hsz, hP, hK, hN, hD0⟩ := hv
  have hx := B.exec
  have hb := B.bytes
  have hr := B.returns
  have hts := atoms_spec (ws := wsX5_init) B.pre
  have hown : s.vm.findClass RX5 = some m.cls := findClass_of_methodNamed B.named
  have hlocks := B.notSynchronized
  have hin : meth.name = "<init>" := (name_of_methodNamed B.named B.method).1
  subst hsz
  have hD := hD0.self (sz := s.heap.size)
  generalize hAe : va_A [(h0, .inr (4, [.null, .int t_size, .null, .null]))] s.heap.size = A at hD ⊢
  have hA0 : ∀ q : Nat, s.heap.size ≤ q → A q := fun q h => by rw [← hAe]; exact Or.inr h
  have hS : va_S A s.heap s.heap [] := va_S.rf
  have hP : va_P (dC, dI) vwCl [(h0, .inr (4, [.null, .int t_size, .null, .null]))] s.heap := hP
  have hl := lv_entry ([.ref h0]) (n := 1) (Nat.le_of_ble_eq_true rfl)
  rw [lg_entry_eq]
  generalize (lg_sl ([.ref h0]) ++ List.replicate (1 - (lg_sl ([.ref h0])).length) Slot.unset).toArray = ls at hl ⊢
  have hl : lv_has ls 1 [(0, .ref h0)] := hl
  dsimp only [mX5_init] at h
  refine lv_aload_n hx hb dX5_init_0 rfl (lv_at hl 0 rfl) ?_
  refine W.objInit hx hb hown (hts (.methodLink RX5 3 objectInit) (by decide +kernel)) (hts (.instanceMethod objectInit) (by decide +kernel)) (hts (.code objectInit ⟨#[0xb1]⟩ 1 none) (by decide +kernel)) rfl (by rw [hml]; exact hl.1) rfl dX5_init_1 (Nat.le_of_ble_eq_true rfl) (Nat.le_of_ble_eq_true rfl) ?_
  refine W.eq (g2 := F0 m 4 ls []) rfl ?_
  refine lv_aload_n hx hb dX5_init_4 rfl (lv_at hl 0 rfl) ?_
  refine lv_bipush (v := 24) hx hb dX5_init_5 (by decide) ?_
  refine va_newq (N' := 24) hx hb hown (hts (.classLink RX5 9 RX0) (by decide +kernel)) (nw_ao hN) hK hP hD hS hA0 (by decide +kernel) (by decide +kernel) (by decide +kernel) (by decide +kernel) (by decide +kernel) dX5_init_7 (fun q7 k7 H hK hP hD hS => ?_)
  have hP : va_P (dC, dI) vwCl [(h0, .inr (4, [.null, .int t_size, .null, .null])), (q7, .inl (k7, 24, .inr (.inr (.inr (.inr (fun _ => none))))))] H := hP
  have hD : va_D A [(h0, .inr (4, [.null, .int t_size, .null, .null])), (q7, .inl (k7, 24, .inr (.inr (.inr (.inr (fun _ => none))))))] := hD
  have hK : va_K (dC, dI) vwCl [(k7, .object "PointRings$Curve")] s := hK
  refine va_putF (D := (dC, dI)) (ci := 4) (v := .ref q7) (ty := .array (.object "PointRings$Curve")) (C := RX5) (T := TX5) (N := 4) hx hb hts (by decide +kernel) tyX5 tyX5_ok nmX5 hown hK hP hD hS 0 rfl rfl 0 (by decide) (hts (.fieldLink RX5 11 "PointRings" "held" "[LPointRings$Curve;") (by decide +kernel)) (fun _ h9 => h9) rfl hin rfl (by decide +kernel) rfl rfl (Nat.le_of_ble_eq_true rfl) dX5_init_10 (fun H locs hP hD hS => ?_)
  have hP : va_P (dC, dI) vwCl [(h0, .inr (4, [.ref q7, .int t_size, .null, .null])), (q7, .inl (k7, 24, .inr (.inr (.inr (.inr (fun _ => none))))))] H := hP
  have hD : va_D A [(h0, .inr (4, [.ref q7, .int t_size, .null, .null])), (q7, .inl (k7, 24, .inr (.inr (.inr (.inr (fun _ => none))))))] := hD
  refine lv_aload_n hx hb dX5_init_13 rfl (lv_at hl 0 rfl) ?_
  refine lv_iconst (v := 0) hx hb dX5_init_14 (by decide) ?_
  refine va_put (D := (dC, dI)) (ci := 4) (v := .int 0) (ty := .int) (C := RX5) (T := TX5) (N := 4) hx hb hts (by decide +kernel) tyX5 tyX5_ok nmX5 hown hK hP hD hS 0 rfl rfl 1 (by decide) (hts (.fieldLink RX5 15 "PointRings" "size" "I") (by decide +kernel)) (fun _ h9 => h9) rfl (by decide +kernel) rfl rfl (Nat.le_of_ble_eq_true rfl) dX5_init_15 (fun H locs hP hD hS => ?_)
  have hP : va_P (dC, dI) vwCl [(h0, .inr (4, [.ref q7, .int 0, .null, .null])), (q7, .inl (k7, 24, .inr (.inr (.inr (.inr (fun _ => none))))))] H := hP
  have hD : va_D A [(h0, .inr (4, [.ref q7, .int 0, .null, .null])), (q7, .inl (k7, 24, .inr (.inr (.inr (.inr (fun _ => none))))))] := hD
  refine lv_aload_n hx hb dX5_init_18 rfl (lv_at hl 0 rfl) ?_
  refine va_new (ci := 1) (fs := [.null, .int 0]) (C := RX1) (T := TX1) (N := 2) hx hb hts (by decide +kernel) tyX1 tyX1_ok hown (hts (.classLink RX5 19 RX1) (by decide +kernel)) (hts (.instantiable RX1 2) (by decide +kernel)) (hts (.initialized RX1) (by decide +kernel)) hK hP hD hS hA0 rfl (fun j hj => by rcases (show j = 0 ∨ j = 1 by omega) with rfl | rfl <;> rfl) (by decide +kernel) (by decide +kernel) dX5_init_19 (fun q19 H hP hD hS => ?_)
  have hP : va_P (dC, dI) vwCl [(h0, .inr (4, [.ref q7, .int 0, .null, .null])), (q7, .inl (k7, 24, .inr (.inr (.inr (.inr (fun _ => none)))))), (q19, .inr (1, [.null, .int 0]))] H := hP
  have hD : va_D A [(h0, .inr (4, [.ref q7, .int 0, .null, .null])), (q7, .inl (k7, 24, .inr (.inr (.inr (.inr (fun _ => none)))))), (q19, .inr (1, [.null, .int 0]))] := hD
  refine lv_dup hx hb dX5_init_22 rfl ?_
  obtain ⟨r1, hr1, h⟩ := Option.bind_eq_some_iff.mp h
  have hPc := hP.sub (ws' := [(q19, .inr (1, [.null, .int 0]))]) [2] rfl
  have hDc := hD.sub (ws' := [(q19, .inr (1, [.null, .int 0]))]) [2] (by decide) rfl
  have hKc := hK.sub (tys' := []) [] rfl
  have hFc := va_free (wc := [(q19, .inr (1, [.null, .int 0]))]) hD hS hA0 [2] rfl
  refine va_callv (va_runI (As := []) (rest := [.ref q19, .ref h0]) ⟨hx, hb, hml, hown, hts⟩ (ctX1_init l N dC dI _ q19 0 r1 hr1) (cwI 0 hts gX5_init_X1_init rfl rfl rfl (hts (.initialized RX1) (by decide +kernel)) (hts (.methodLink RX5 21 yX1_init) (by decide +kernel)) (hts (.instanceMethod yX1_init) (by decide +kernel)) rfl (by decide +kernel) ⟨Nat.le_of_ble_eq_true rfl, Nat.le_of_ble_eq_true rfl⟩) ⟨fun a U g mk q => by obtain ⟨q0, q1, qP, qK, qN, qD⟩ := q; exact ⟨q0, q1, qP, va_K.moved (u := U) (U := U.calling g mk a) (Vm.Alike.refl U.vm) qK, nw_same (u := U) (U := U.calling g mk a) rfl qN, qD⟩, fun U hU hW => ⟨rfl, by rw [hU], by rw [hU]; exact hPc, va_K.moved hW.alike hKc, nw_warm hW hN, hDc.weaken (fun _ _ _ _ => trivial)⟩⟩ rfl rfl hl.1 rfl (lv_room (Nat.le_of_ble_eq_true rfl)) dX5_init_23 ⟨by decide +kernel, by decide +kernel⟩) hS (fun q _ h => hFc q h) hFc (fun u t H1 locs ht hvm hw hB1 hz1 hk1 hS => ?_)
  obtain ⟨u2, f3⟩ := u
  obtain ⟨q8_23, k8_23, hP1, hK1, hD1⟩ := hB1
  rw [ht] at hP1
  have hK1 := va_K.moved hvm.symm hK1
  subst hw
  dsimp only at h
  obtain ⟨hP, hD⟩ := va_join (wr := [(h0, .inr (4, [.ref q7, .int 0, .null, .null])), (q7, .inl (k7, 24, .inr (.inr (.inr (.inr (fun _ => none))))))]) (w1 := [(q19, .inr (1, [.ref q8_23, .int u2])), (q8_23, .inl (k8_23, 10007, .inl f3))]) hP hD [2] [0, 1] rfl rfl (by decide) (by decide) hk1 hFc hP1 hD1
  generalize H1 = H at hP hS ⊢
  have hP := hP.sub (ws' := [(h0, .inr (4, [.ref q7, .int 0, .null, .null])), (q7, .inl (k7, 24, .inr (.inr (.inr (.inr (fun _ => none)))))), (q19, .inr (1, [.ref q8_23, .int u2])), (q8_23, .inl (k8_23, 10007, .inl f3))]) [0, 1, 2, 3] rfl
  have hD := hD.sub (ws' := [(h0, .inr (4, [.ref q7, .int 0, .null, .null])), (q7, .inl (k7, 24, .inr (.inr (.inr (.inr (fun _ => none)))))), (q19, .inr (1, [.ref q8_23, .int u2])), (q8_23, .inl (k8_23, 10007, .inl f3))]) [0, 1, 2, 3] (by decide) rfl
  have hK := (hK.app hK1).sub (tys' := [(k7, .object "PointRings$Curve"), (k8_23, .int)]) [0, 1] rfl
  refine va_putF (D := (dC, dI)) (ci := 4) (v := .ref q19) (ty := .object "PointRings$Roots") (C := RX5) (T := TX5) (N := 4) hx hb hts (by decide +kernel) tyX5 tyX5_ok nmX5 hown hK hP hD hS 0 rfl rfl 2 (by decide) (hts (.fieldLink RX5 22 "PointRings" "roots" "LPointRings$Roots;") (by decide +kernel)) (fun _ h9 => h9) rfl hin rfl (by decide +kernel) rfl rfl (Nat.le_of_ble_eq_true rfl) dX5_init_26 (fun H locs hP hD hS => ?_)
  have hP : va_P (dC, dI) vwCl [(h0, .inr (4, [.ref q7, .int 0, .ref q19, .null])), (q7, .inl (k7, 24, .inr (.inr (.inr (.inr (fun _ => none)))))), (q19, .inr (1, [.ref q8_23, .int u2])), (q8_23, .inl (k8_23, 10007, .inl f3))] H := hP
  have hD : va_D A [(h0, .inr (4, [.ref q7, .int 0, .ref q19, .null])), (q7, .inl (k7, 24, .inr (.inr (.inr (.inr (fun _ => none)))))), (q19, .inr (1, [.ref q8_23, .int u2])), (q8_23, .inl (k8_23, 10007, .inl f3))] := hD
  refine lv_aload_n hx hb dX5_init_29 rfl (lv_at hl 0 rfl) ?_
  refine va_new (ci := 3) (fs := [.null, .null, .null]) (C := RX3) (T := TX3) (N := 3) hx hb hts (by decide +kernel) tyX3 tyX3_ok hown (hts (.classLink RX5 26 RX3) (by decide +kernel)) (hts (.instantiable RX3 3) (by decide +kernel)) (hts (.initialized RX3) (by decide +kernel)) hK hP hD hS hA0 rfl (fun j hj => by rcases (show j = 0 ∨ j = 1 ∨ j = 2 by omega) with rfl | rfl | rfl <;> rfl) (by decide +kernel) (by decide +kernel) dX5_init_30 (fun q30 H hP hD hS => ?_)
  have hP : va_P (dC, dI) vwCl [(h0, .inr (4, [.ref q7, .int 0, .ref q19, .null])), (q7, .inl (k7, 24, .inr (.inr (.inr (.inr (fun _ => none)))))), (q19, .inr (1, [.ref q8_23, .int u2])), (q8_23, .inl (k8_23, 10007, .inl f3)), (q30, .inr (3, [.null, .null, .null]))] H := hP
  have hD : va_D A [(h0, .inr (4, [.ref q7, .int 0, .ref q19, .null])), (q7, .inl (k7, 24, .inr (.inr (.inr (.inr (fun _ => none)))))), (q19, .inr (1, [.ref q8_23, .int u2])), (q8_23, .inl (k8_23, 10007, .inl f3)), (q30, .inr (3, [.null, .null, .null]))] := hD
  refine lv_dup hx hb dX5_init_33 rfl ?_
  refine lv_aload_n hx hb dX5_init_34 rfl (lv_at hl 0 rfl) ?_
  refine va_get (D := (dC, dI)) (ci := 4) (v := .ref q19) (C := RX5) (T := TX5) (N := 4) hx hb hts (by decide +kernel) hown hK hP 0 rfl rfl 2 (by decide) (hts (.fieldLink RX5 22 "PointRings" "roots" "LPointRings$Roots;") (by decide +kernel)) (fun _ h9 => h9) rfl dX5_init_35 ?_
  obtain ⟨r4, hr4, h⟩ := Option.bind_eq_some_iff.mp h
  have hPc := hP.sub (ws' := [(q30, .inr (3, [.null, .null, .null]))]) [4] rfl
  have hDc := hD.sub (ws' := [(q30, .inr (3, [.null, .null, .null]))]) [4] (by decide) rfl
  have hKc := hK.sub (tys' := []) [] rfl
  have hFc := va_free (wc := [(q30, .inr (3, [.null, .null, .null]))]) hD hS hA0 [4] rfl
  refine va_callv (va_runI (As := [.ref q19]) (rest := [.ref q30, .ref h0]) ⟨hx, hb, hml, hown, hts⟩ (ctX3_init l N dC dI _ q30 q19 r4 hr4) (cwI 1 hts gX5_init_X3_init rfl rfl rfl (hts (.initialized RX3) (by decide +kernel)) (hts (.methodLink RX5 28 yX3_init) (by decide +kernel)) (hts (.instanceMethod yX3_init) (by decide +kernel)) rfl (by decide +kernel) ⟨Nat.le_of_ble_eq_true rfl, Nat.le_of_ble_eq_true rfl⟩) ⟨fun a U g mk q => by obtain ⟨q0, q1, qP, qK, qN, qD⟩ := q; exact ⟨q0, q1, qP, va_K.moved (u := U) (U := U.calling g mk a) (Vm.Alike.refl U.vm) qK, nw_same (u := U) (U := U.calling g mk a) rfl qN, qD⟩, fun U hU hW => ⟨rfl, by rw [hU], by rw [hU]; exact hPc, va_K.moved hW.alike hKc, nw_warm hW hN, hDc.weaken (fun _ _ _ _ => trivial)⟩⟩ rfl rfl hl.1 rfl (lv_room (Nat.le_of_ble_eq_true rfl)) dX5_init_38 ⟨by decide +kernel, by decide +kernel⟩) hS (fun q _ h => hFc q h) hFc (fun u t H1 locs ht hvm hw hB1 hz1 hk1 hS => ?_)
  obtain ⟨u5, u6, u7, f8, f9, f10⟩ := u
  obtain ⟨q10_38, q8_14_38, k8_14_38, q17_14_38, k17_14_38, q22_38, k22_38, hP1, hK1, hD1⟩ := hB1
  rw [ht] at hP1
  have hK1 := va_K.moved hvm.symm hK1
  subst hw
  dsimp only at h
  obtain ⟨hP, hD⟩ := va_join (wr := [(h0, .inr (4, [.ref q7, .int 0, .ref q19, .null])), (q7, .inl (k7, 24, .inr (.inr (.inr (.inr (fun _ => none)))))), (q19, .inr (1, [.ref q8_23, .int u2])), (q8_23, .inl (k8_23, 10007, .inl f3))]) (w1 := [(q30, .inr (3, [.ref q19, .ref q10_38, .ref q22_38])), (q10_38, .inr (2, [.ref q8_14_38, .ref q17_14_38, .null, .int u5, .int u6, .int u7])), (q8_14_38, .inl (k8_14_38, 10007, .inl f8)), (q17_14_38, .inl (k17_14_38, 128, .inl f9)), (q22_38, .inl (k22_38, 4, .inl f10))]) hP hD [4] [0, 1, 2, 3] rfl rfl (by decide) (by decide) hk1 hFc hP1 hD1
  generalize H1 = H at hP hS ⊢
  have hP := hP.sub (ws' := [(h0, .inr (4, [.ref q7, .int 0, .ref q19, .null])), (q7, .inl (k7, 24, .inr (.inr (.inr (.inr (fun _ => none)))))), (q19, .inr (1, [.ref q8_23, .int u2])), (q8_23, .inl (k8_23, 10007, .inl f3)), (q30, .inr (3, [.ref q19, .ref q10_38, .ref q22_38])), (q10_38, .inr (2, [.ref q8_14_38, .ref q17_14_38, .null, .int u5, .int u6, .int u7])), (q8_14_38, .inl (k8_14_38, 10007, .inl f8)), (q17_14_38, .inl (k17_14_38, 128, .inl f9)), (q22_38, .inl (k22_38, 4, .inl f10))]) [0, 1, 2, 3, 4, 5, 6, 7, 8] rfl
  have hD := hD.sub (ws' := [(h0, .inr (4, [.ref q7, .int 0, .ref q19, .null])), (q7, .inl (k7, 24, .inr (.inr (.inr (.inr (fun _ => none)))))), (q19, .inr (1, [.ref q8_23, .int u2])), (q8_23, .inl (k8_23, 10007, .inl f3)), (q30, .inr (3, [.ref q19, .ref q10_38, .ref q22_38])), (q10_38, .inr (2, [.ref q8_14_38, .ref q17_14_38, .null, .int u5, .int u6, .int u7])), (q8_14_38, .inl (k8_14_38, 10007, .inl f8)), (q17_14_38, .inl (k17_14_38, 128, .inl f9)), (q22_38, .inl (k22_38, 4, .inl f10))]) [0, 1, 2, 3, 4, 5, 6, 7, 8] (by decide) rfl
  have hK := (hK.app hK1).sub (tys' := [(k7, .object "PointRings$Curve"), (k8_23, .int), (k8_14_38, .int), (k17_14_38, .int), (k22_38, .int)]) [0, 1, 2, 3, 4] rfl
  refine va_putF (D := (dC, dI)) (ci := 4) (v := .ref q30) (ty := .object "PointRings$Survey") (C := RX5) (T := TX5) (N := 4) hx hb hts (by decide +kernel) tyX5 tyX5_ok nmX5 hown hK hP hD hS 0 rfl rfl 3 (by decide) (hts (.fieldLink RX5 31 "PointRings" "survey" "LPointRings$Survey;") (by decide +kernel)) (fun _ h9 => h9) rfl hin rfl (by decide +kernel) rfl rfl (Nat.le_of_ble_eq_true rfl) dX5_init_41 (fun H locs hP hD hS => ?_)
  have hP : va_P (dC, dI) vwCl [(h0, .inr (4, [.ref q7, .int 0, .ref q19, .ref q30])), (q7, .inl (k7, 24, .inr (.inr (.inr (.inr (fun _ => none)))))), (q19, .inr (1, [.ref q8_23, .int u2])), (q8_23, .inl (k8_23, 10007, .inl f3)), (q30, .inr (3, [.ref q19, .ref q10_38, .ref q22_38])), (q10_38, .inr (2, [.ref q8_14_38, .ref q17_14_38, .null, .int u5, .int u6, .int u7])), (q8_14_38, .inl (k8_14_38, 10007, .inl f8)), (q17_14_38, .inl (k17_14_38, 128, .inl f9)), (q22_38, .inl (k22_38, 4, .inl f10))] H := hP
  have hD : va_D A [(h0, .inr (4, [.ref q7, .int 0, .ref q19, .ref q30])), (q7, .inl (k7, 24, .inr (.inr (.inr (.inr (fun _ => none)))))), (q19, .inr (1, [.ref q8_23, .int u2])), (q8_23, .inl (k8_23, 10007, .inl f3)), (q30, .inr (3, [.ref q19, .ref q10_38, .ref q22_38])), (q10_38, .inr (2, [.ref q8_14_38, .ref q17_14_38, .null, .int u5, .int u6, .int u7])), (q8_14_38, .inl (k8_14_38, 10007, .inl f8)), (q17_14_38, .inl (k17_14_38, 128, .inl f9)), (q22_38, .inl (k22_38, 4, .inl f10))] := hD
  have hv : (0, (fun _ => none), u2, f3, u5, u6, u7, f8, f9, f10) = rr := Option.some.inj h
  have hP9 := hP.sub (ws' := [(h0, .inr (4, [.ref q7, .int 0, .ref q19, .ref q30])), (q7, .inl (k7, 24, .inr (.inr (.inr (.inr (fun _ => none)))))), (q19, .inr (1, [.ref q8_23, .int u2])), (q8_23, .inl (k8_23, 10007, .inl f3)), (q30, .inr (3, [.ref q19, .ref q10_38, .ref q22_38])), (q10_38, .inr (2, [.ref q8_14_38, .ref q17_14_38, .null, .int u5, .int u6, .int u7])), (q8_14_38, .inl (k8_14_38, 10007, .inl f8)), (q17_14_38, .inl (k17_14_38, 128, .inl f9)), (q22_38, .inl (k22_38, 4, .inl f10))]) [0, 1, 2, 3, 4, 5, 6, 7, 8] rfl
  have hD9 := hD.sub (ws' := [(h0, .inr (4, [.ref q7, .int 0, .ref q19, .ref q30])), (q7, .inl (k7, 24, .inr (.inr (.inr (.inr (fun _ => none)))))), (q19, .inr (1, [.ref q8_23, .int u2])), (q8_23, .inl (k8_23, 10007, .inl f3)), (q30, .inr (3, [.ref q19, .ref q10_38, .ref q22_38])), (q10_38, .inr (2, [.ref q8_14_38, .ref q17_14_38, .null, .int u5, .int u6, .int u7])), (q8_14_38, .inl (k8_14_38, 10007, .inl f8)), (q17_14_38, .inl (k17_14_38, 128, .inl f9)), (q22_38, .inl (k22_38, 4, .inl f10))]) [0, 1, 2, 3, 4, 5, 6, 7, 8] (by decide) rfl
  have hK9 := hK.sub (tys' := [(k7, .object "PointRings$Curve"), (k8_23, .int), (k8_14_38, .int), (k17_14_38, .int), (k22_38, .int)]) [0, 1, 2, 3, 4] rfl
  refine W.widen (k := 8) (n := 20181) (by decide +kernel) (by decide +kernel) ?_
  exact W.vret hx hb hr (fun t ht hW => ⟨⟨(0, (fun _ => none), u2, f3, u5, u6, u7, f8, f9, f10), rfl, hv, q7, k7, q19, q8_23, k8_23, q30, q10_38, q8_14_38, k8_14_38, q17_14_38, k17_14_38, q22_38, k22_38, by rw [ht]; exact hP9, va_K.moved hW.alike hK9, hD9⟩, hS.F ht⟩) hS.2.2 dX5_init_44
end
section
def mX0_init (N : Nat) (a0 : Int32) (a1 : Int32) (a2 : Int32) : Option (Int32 × Int32 × Int32 × Int32 × Int32) := some (a0, a1, a2, (-1), (-1))
abbrev rmX0_init : Room := { frames := 1, cells := 0, slots := 0, locals := 12 }
set_option maxHeartbeats 4000000 in
set_option maxRecDepth 100000 in
theorem ctX0_init (l : Launch) (N : Nat) (dC : Nat → ClassId) (dI : Nat → Nat → Nat) (sz : Nat) (h0 : Nat) (t_p : Int32) (t_a : Int32) (t_b : Int32) (t_from : Int32) (t_kernelPoint : Int32) (t_kernelOrder : Int32) (t_points : Int32) (t_inner : Int32) (t_outer : Int32) (t_makersFound : Int32) (t_first : Int32) (t_second : Int32) (a0 : Int32) (a1 : Int32) (a2 : Int32) (rr : Int32 × Int32 × Int32 × Int32 × Int32) (h : mX0_init N a0 a1 a2 = some rr) : Met l yX0_init wsX0_init rmX0_init (va_Pc [.ref h0, .int a0, .int a1, .int a2] (fun U => U.heap.size = sz ∧ va_P (dC, dI) vwCl [(h0, .inr (0, [.int t_p, .int t_a, .int t_b, .int t_from, .int t_kernelPoint, .int t_kernelOrder, .int t_points, .int t_inner, .int t_outer, .int t_makersFound, .int t_first, .int t_second]))] U.heap ∧ va_K (dC, dI) vwCl [] U ∧ nw_all U ∧ va_D (fun _ => True) [(h0, .inr (0, [.int t_p, .int t_a, .int t_b, .int t_from, .int t_kernelPoint, .int t_kernelOrder, .int t_points, .int t_inner, .int t_outer, .int t_makersFound, .int t_first, .int t_second]))])) (va_Qv (fun (u : Int32 × Int32 × Int32 × Int32 × Int32) => u = rr) (fun (u : Int32 × Int32 × Int32 × Int32 × Int32) t => match u with | (u0, u1, u2, u3, u4) => va_P (dC, dI) vwCl [(h0, .inr (0, [.int u0, .int u1, .int u2, .int t_from, .int t_kernelPoint, .int t_kernelOrder, .int t_points, .int t_inner, .int t_outer, .int t_makersFound, .int u3, .int u4]))] t.heap ∧ va_K (dC, dI) vwCl [] t ∧ va_D (va_A [(h0, .inr (0, [.int t_p, .int t_a, .int t_b, .int t_from, .int t_kernelPoint, .int t_kernelOrder, .int t_points, .int t_inner, .int t_outer, .int t_makersFound, .int t_first, .int t_second]))] sz) [(h0, .inr (0, [.int u0, .int u1, .int u2, .int t_from, .int t_kernelPoint, .int t_kernelOrder, .int t_points, .int t_inner, .int t_outer, .int t_makersFound, .int u3, .int u4]))]) (va_A [(h0, .inr (0, [.int t_p, .int t_a, .int t_b, .int t_from, .int t_kernelPoint, .int t_kernelOrder, .int t_points, .int t_inner, .int t_outer, .int t_makersFound, .int t_first, .int t_second]))] sz)) 0 0 (va_A [(h0, .inr (0, [.int t_p, .int t_a, .int t_b, .int t_from, .int t_kernelPoint, .int t_kernelOrder, .int t_points, .int t_inner, .int t_outer, .int t_makersFound, .int t_first, .int t_second]))] sz) := by
  refine Met.ofW (cc := cX0_init) (maxL := 4) (ret := none) (by decide) rfl ?_
  intro p e s m args below meth c s₁ B hml hv
  obtain ⟨rfl, hsz, hP, hK, hN, hD0⟩ := hv
  have hx := B.exec
  have hb := B.bytes
  have hr := B.returns
  have hts := atoms_spec (ws := wsX0_init) B.pre
  have hown : s.vm.findClass RX0 = some m.cls := findClass_of_methodNamed B.named
  have hlocks := B.notSynchronized
  have hin : meth.name = "<init>" := (name_of_methodNamed B.named B.method).1
  subst hsz
  have hD := hD0.self (sz := s.heap.size)
  generalize hAe : va_A [(h0, .inr (0, [.int t_p, .int t_a, .int t_b, .int t_from, .int t_kernelPoint, .int t_kernelOrder, .int t_points, .int t_inner, .int t_outer, .int t_makersFound, .int t_first, .int t_second]))] s.heap.size = A at hD ⊢
  have hA0 : ∀ q : Nat, s.heap.size ≤ q → A q := fun q h => by rw [← hAe]; exact Or.inr h
  have hS : va_S A s.heap s.heap [] := va_S.rf
  have hP : va_P (dC, dI) vwCl [(h0, .inr (0, [.int t_p, .int t_a, .int t_b, .int t_from, .int t_kernelPoint, .int t_kernelOrder, .int t_points, .int t_inner, .int t_outer, .int t_makersFound, .int t_first, .int t_second]))] s.heap := hP
  have hl := lv_entry ([.ref h0, .int a0, .int a1, .int a2]) (n := 4) (Nat.le_of_ble_eq_true rfl)
  rw [lg_entry_eq]
  generalize (lg_sl ([.ref h0, .int a0, .int a1, .int a2]) ++ List.replicate (4 - (lg_sl ([.ref h0, .int a0, .int a1, .int a2])).length) Slot.unset).toArray = ls at hl ⊢
  have hl : lv_has ls 4 [(0, .ref h0), (1, .int a0), (2, .int a1), (3, .int a2)] := hl
  dsimp only [mX0_init] at h
  refine lv_aload_n hx hb dX0_init_0 rfl (lv_at hl 0 rfl) ?_
  refine W.objInit hx hb hown (hts (.methodLink RX0 3 objectInit) (by decide +kernel)) (hts (.instanceMethod objectInit) (by decide +kernel)) (hts (.code objectInit ⟨#[0xb1]⟩ 1 none) (by decide +kernel)) rfl (by rw [hml]; exact hl.1) rfl dX0_init_1 (Nat.le_of_ble_eq_true rfl) (Nat.le_of_ble_eq_true rfl) ?_
  refine W.eq (g2 := F0 m 4 ls []) rfl ?_
  refine lv_aload_n hx hb dX0_init_4 rfl (lv_at hl 0 rfl) ?_
  refine lv_iload_n hx hb dX0_init_5 rfl (lv_at hl 1 rfl) ?_
  refine va_putF (D := (dC, dI)) (ci := 0) (v := .int a0) (ty := .int) (C := RX0) (T := TX0) (N := 12) hx hb hts (by decide +kernel) tyX0 tyX0_ok nmX0 hown hK hP hD hS 0 rfl rfl 0 (by decide) (hts (.fieldLink RX0 9 "PointRings$Curve" "p" "I") (by decide +kernel)) (fun _ h9 => h9) rfl hin rfl (by decide +kernel) rfl rfl (Nat.le_of_ble_eq_true rfl) dX0_init_6 (fun H locs hP hD hS => ?_)
  have hP : va_P (dC, dI) vwCl [(h0, .inr (0, [.int a0, .int t_a, .int t_b, .int t_from, .int t_kernelPoint, .int t_kernelOrder, .int t_points, .int t_inner, .int t_outer, .int t_makersFound, .int t_first, .int t_second]))] H := hP
  have hD : va_D A [(h0, .inr (0, [.int a0, .int t_a, .int t_b, .int t_from, .int t_kernelPoint, .int t_kernelOrder, .int t_points, .int t_inner, .int t_outer, .int t_makersFound, .int t_first, .int t_second]))] := hD
  refine lv_aload_n hx hb dX0_init_9 rfl (lv_at hl 0 rfl) ?_
  refine lv_iload_n hx hb dX0_init_10 rfl (lv_at hl 2 rfl) ?_
  refine va_putF (D := (dC, dI)) (ci := 0) (v := .int a1) (ty := .int) (C := RX0) (T := TX0) (N := 12) hx hb hts (by decide +kernel) tyX0 tyX0_ok nmX0 hown hK hP hD hS 0 rfl rfl 1 (by decide) (hts (.fieldLink RX0 15 "PointRings$Curve" "a" "I") (by decide +kernel)) (fun _ h9 => h9) rfl hin rfl (by decide +kernel) rfl rfl (Nat.le_of_ble_eq_true rfl) dX0_init_11 (fun H locs hP hD hS => ?_)
  have hP : va_P (dC, dI) vwCl [(h0, .inr (0, [.int a0, .int a1, .int t_b, .int t_from, .int t_kernelPoint, .int t_kernelOrder, .int t_points, .int t_inner, .int t_outer, .int t_makersFound, .int t_first, .int t_second]))] H := hP
  have hD : va_D A [(h0, .inr (0, [.int a0, .int a1, .int t_b, .int t_from, .int t_kernelPoint, .int t_kernelOrder, .int t_points, .int t_inner, .int t_outer, .int t_makersFound, .int t_first, .int t_second]))] := hD
  refine lv_aload_n hx hb dX0_init_14 rfl (lv_at hl 0 rfl) ?_
  refine lv_iload_n hx hb dX0_init_15 rfl (lv_at hl 3 rfl) ?_
  refine va_putF (D := (dC, dI)) (ci := 0) (v := .int a2) (ty := .int) (C := RX0) (T := TX0) (N := 12) hx hb hts (by decide +kernel) tyX0 tyX0_ok nmX0 hown hK hP hD hS 0 rfl rfl 2 (by decide) (hts (.fieldLink RX0 18 "PointRings$Curve" "b" "I") (by decide +kernel)) (fun _ h9 => h9) rfl hin rfl (by decide +kernel) rfl rfl (Nat.le_of_ble_eq_true rfl) dX0_init_16 (fun H locs hP hD hS => ?_)
  have hP : va_P (dC, dI) vwCl [(h0, .inr (0, [.int a0, .int a1, .int a2, .int t_from, .int t_kernelPoint, .int t_kernelOrder, .int t_points, .int t_inner, .int t_outer, .int t_makersFound, .int t_first, .int t_second]))] H := hP
  have hD : va_D A [(h0, .inr (0, [.int a0, .int a1, .int a2, .int t_from, .int t_kernelPoint, .int t_kernelOrder, .int t_points, .int t_inner, .int t_outer, .int t_makersFound, .int t_first, .int t_second]))] := hD
  refine lv_aload_n hx hb dX0_init_19 rfl (lv_at hl 0 rfl) ?_
  refine lv_iconst (v := (-1)) hx hb dX0_init_20 (by decide) ?_
  refine va_put (D := (dC, dI)) (ci := 0) (v := .int (-1)) (ty := .int) (C := RX0) (T := TX0) (N := 12) hx hb hts (by decide +kernel) tyX0 tyX0_ok nmX0 hown hK hP hD hS 0 rfl rfl 10 (by decide) (hts (.fieldLink RX0 21 "PointRings$Curve" "first" "I") (by decide +kernel)) (fun _ h9 => h9) rfl (by decide +kernel) rfl rfl (Nat.le_of_ble_eq_true rfl) dX0_init_21 (fun H locs hP hD hS => ?_)
  have hP : va_P (dC, dI) vwCl [(h0, .inr (0, [.int a0, .int a1, .int a2, .int t_from, .int t_kernelPoint, .int t_kernelOrder, .int t_points, .int t_inner, .int t_outer, .int t_makersFound, .int (-1), .int t_second]))] H := hP
  have hD : va_D A [(h0, .inr (0, [.int a0, .int a1, .int a2, .int t_from, .int t_kernelPoint, .int t_kernelOrder, .int t_points, .int t_inner, .int t_outer, .int t_makersFound, .int (-1), .int t_second]))] := hD
  refine lv_aload_n hx hb dX0_init_24 rfl (lv_at hl 0 rfl) ?_
  refine lv_iconst (v := (-1)) hx hb dX0_init_25 (by decide) ?_
  refine va_put (D := (dC, dI)) (ci := 0) (v := .int (-1)) (ty := .int) (C := RX0) (T := TX0) (N := 12) hx hb hts (by decide +kernel) tyX0 tyX0_ok nmX0 hown hK hP hD hS 0 rfl rfl 11 (by decide) (hts (.fieldLink RX0 24 "PointRings$Curve" "second" "I") (by decide +kernel)) (fun _ h9 => h9) rfl (by decide +kernel) rfl rfl (Nat.le_of_ble_eq_true rfl) dX0_init_26 (fun H locs hP hD hS => ?_)
  have hP : va_P (dC, dI) vwCl [(h0, .inr (0, [.int a0, .int a1, .int a2, .int t_from, .int t_kernelPoint, .int t_kernelOrder, .int t_points, .int t_inner, .int t_outer, .int t_makersFound, .int (-1), .int (-1)]))] H := hP
  have hD : va_D A [(h0, .inr (0, [.int a0, .int a1, .int a2, .int t_from, .int t_kernelPoint, .int t_kernelOrder, .int t_points, .int t_inner, .int t_outer, .int t_makersFound, .int (-1), .int (-1)]))] := hD
  have hv : (a0, a1, a2, (-1), (-1)) = rr := Option.some.inj h
  have hP9 := hP.sub (ws' := [(h0, .inr (0, [.int a0, .int a1, .int a2, .int t_from, .int t_kernelPoint, .int t_kernelOrder, .int t_points, .int t_inner, .int t_outer, .int t_makersFound, .int (-1), .int (-1)]))]) [0] rfl
  have hD9 := hD.sub (ws' := [(h0, .inr (0, [.int a0, .int a1, .int a2, .int t_from, .int t_kernelPoint, .int t_kernelOrder, .int t_points, .int t_inner, .int t_outer, .int t_makersFound, .int (-1), .int (-1)]))]) [0] (by decide) rfl
  have hK9 := hK.sub (tys' := []) [] rfl
  exact W.vret hx hb hr (fun t ht hW => ⟨⟨(a0, a1, a2, (-1), (-1)), rfl, hv, by rw [ht]; exact hP9, va_K.moved hW.alike hK9, hD9⟩, hS.F ht⟩) hS.2.2 dX0_init_29
end
section
def mX5_keep_k (N : Nat) (t_size : Int32) : Option (Int32 × Int32) := if t_size < 0 ∨ 24 ≤ t_size.toNatClampNeg then none else mi_let (t_size + 1) (fun v3 => some (v3 - 1, v3))
abbrev rmX5_keep_k : Room := { frames := 0, cells := 0, slots := 0, locals := 0 }
set_option maxHeartbeats 4000000 in
set_option maxRecDepth 100000 in
theorem ctX5_keep_k (l : Launch) (N : Nat) (dC : Nat → ClassId) (dI : Nat → Nat → Nat) (sz : Nat) (h0 : Nat) (h0_held : Nat) (h1 : Nat) (h0_roots : Nat) (h0_survey : Nat) (k_t_held : ClassId) (t_size : Int32) (t_held : Nat → Option Nat) (p0_p : Int32) (p0_a : Int32) (p0_b : Int32) (p0_from : Int32) (p0_kernelPoint : Int32) (p0_kernelOrder : Int32) (p0_points : Int32) (p0_inner : Int32) (p0_outer : Int32) (p0_makersFound : Int32) (p0_first : Int32) (p0_second : Int32) (rr : Int32 × Int32) (h : mX5_keep_k N t_size = some rr) (hk0 : t_size < 24) : Met l yX5_keep wsX5_keep rmX5_keep_k (va_Pc [.ref h0, .ref h1] (fun U => U.heap.size = sz ∧ va_P (dC, dI) vwCl [(h0, .inr (4, [.ref h0_held, .int t_size, .ref h0_roots, .ref h0_survey])), (h0_held, .inl (k_t_held, 24, .inr (.inr (.inr (.inr t_held))))), (h1, .inr (0, [.int p0_p, .int p0_a, .int p0_b, .int p0_from, .int p0_kernelPoint, .int p0_kernelOrder, .int p0_points, .int p0_inner, .int p0_outer, .int p0_makersFound, .int p0_first, .int p0_second]))] U.heap ∧ va_K (dC, dI) vwCl [(k_t_held, .object "PointRings$Curve")] U ∧ nw_all U ∧ va_D (fun _ => True) [(h0, .inr (4, [.ref h0_held, .int t_size, .ref h0_roots, .ref h0_survey])), (h0_held, .inl (k_t_held, 24, .inr (.inr (.inr (.inr t_held))))), (h1, .inr (0, [.int p0_p, .int p0_a, .int p0_b, .int p0_from, .int p0_kernelPoint, .int p0_kernelOrder, .int p0_points, .int p0_inner, .int p0_outer, .int p0_makersFound, .int p0_first, .int p0_second]))])) (va_Qi (fun (r : Int32) (u : Int32) => (r, u) = rr) (fun (u : Int32) t => match u with | u0 => va_P (dC, dI) vwCl [(h0, .inr (4, [.ref h0_held, .int u0, .ref h0_roots, .ref h0_survey])), (h0_held, .inl (k_t_held, 24, .inr (.inr (.inr (.inr (va_up t_held t_size.toNatClampNeg (some h1))))))), (h1, .inr (0, [.int p0_p, .int p0_a, .int p0_b, .int p0_from, .int p0_kernelPoint, .int p0_kernelOrder, .int p0_points, .int p0_inner, .int p0_outer, .int p0_makersFound, .int p0_first, .int p0_second]))] t.heap ∧ va_K (dC, dI) vwCl [(k_t_held, .object "PointRings$Curve")] t ∧ va_D (va_A [(h0, .inr (4, [.ref h0_held, .int t_size, .ref h0_roots, .ref h0_survey])), (h0_held, .inl (k_t_held, 24, .inr (.inr (.inr (.inr t_held))))), (h1, .inr (0, [.int p0_p, .int p0_a, .int p0_b, .int p0_from, .int p0_kernelPoint, .int p0_kernelOrder, .int p0_points, .int p0_inner, .int p0_outer, .int p0_makersFound, .int p0_first, .int p0_second]))] sz) [(h0, .inr (4, [.ref h0_held, .int u0, .ref h0_roots, .ref h0_survey])), (h0_held, .inl (k_t_held, 24, .inr (.inr (.inr (.inr (va_up t_held t_size.toNatClampNeg (some h1))))))), (h1, .inr (0, [.int p0_p, .int p0_a, .int p0_b, .int p0_from, .int p0_kernelPoint, .int p0_kernelOrder, .int p0_points, .int p0_inner, .int p0_outer, .int p0_makersFound, .int p0_first, .int p0_second]))]) (va_A [(h0, .inr (4, [.ref h0_held, .int t_size, .ref h0_roots, .ref h0_survey])), (h0_held, .inl (k_t_held, 24, .inr (.inr (.inr (.inr t_held))))), (h1, .inr (0, [.int p0_p, .int p0_a, .int p0_b, .int p0_from, .int p0_kernelPoint, .int p0_kernelOrder, .int p0_points, .int p0_inner, .int p0_outer, .int p0_makersFound, .int p0_first, .int p0_second]))] sz)) 0 0 (va_A [(h0, .inr (4, [.ref h0_held, .int t_size, .ref h0_roots, .ref h0_survey])), (h0_held, .inl (k_t_held, 24, .inr (.inr (.inr (.inr t_held))))), (h1, .inr (0, [.int p0_p, .int p0_a, .int p0_b, .int p0_from, .int p0_kernelPoint, .int p0_kernelOrder, .int p0_points, .int p0_inner, .int p0_outer, .int p0_makersFound, .int p0_first, .int p0_second]))] sz) := by
  refine Met.ofW (cc := cX5_keep) (maxL := 2) (ret := (some .int)) (by decide) rfl ?_
  intro p e s m args below meth c s₁ B hml hv
  obtain ⟨rfl, hsz, hP, hK, hN, hD0⟩ := hv
  have hx := B.exec
  have hb := B.bytes
  have hr := B.returns
  have hts := atoms_spec (ws := wsX5_keep) B.pre
  have hown : s.vm.findClass RX5 = some m.cls := findClass_of_methodNamed B.named
  have hlocks := B.notSynchronized
  subst hsz
  have hD := hD0.self (sz := s.heap.size)
  generalize hAe : va_A [(h0, .inr (4, [.ref h0_held, .int t_size, .ref h0_roots, .ref h0_survey])), (h0_held, .inl (k_t_held, 24, .inr (.inr (.inr (.inr t_held))))), (h1, .inr (0, [.int p0_p, .int p0_a, .int p0_b, .int p0_from, .int p0_kernelPoint, .int p0_kernelOrder, .int p0_points, .int p0_inner, .int p0_outer, .int p0_makersFound, .int p0_first, .int p0_second]))] s.heap.size = A at hD ⊢
  have hA0 : ∀ q : Nat, s.heap.size ≤ q → A q := fun q h => by rw [← hAe]; exact Or.inr h
  have hS : va_S A s.heap s.heap [] := va_S.rf
  have hP : va_P (dC, dI) vwCl [(h0, .inr (4, [.ref h0_held, .int t_size, .ref h0_roots, .ref h0_survey])), (h0_held, .inl (k_t_held, 24, .inr (.inr (.inr (.inr t_held))))), (h1, .inr (0, [.int p0_p, .int p0_a, .int p0_b, .int p0_from, .int p0_kernelPoint, .int p0_kernelOrder, .int p0_points, .int p0_inner, .int p0_outer, .int p0_makersFound, .int p0_first, .int p0_second]))] s.heap := hP
  have hl := lv_entry ([.ref h0, .ref h1]) (n := 2) (Nat.le_of_ble_eq_true rfl)
  rw [lg_entry_eq]
  generalize (lg_sl ([.ref h0, .ref h1]) ++ List.replicate (2 - (lg_sl ([.ref h0, .ref h1])).length) Slot.unset).toArray = ls at hl ⊢
  have hl : lv_has ls 2 [(0, .ref h0), (1, .ref h1)] := hl
  dsimp only [mX5_keep_k] at h
  refine lv_aload_n hx hb dX5_keep_0 rfl (lv_at hl 0 rfl) ?_
  refine va_get (D := (dC, dI)) (ci := 4) (v := .int t_size) (C := RX5) (T := TX5) (N := 4) hx hb hts (by decide +kernel) hown hK hP 0 rfl rfl 1 (by decide) (hts (.fieldLink RX5 15 "PointRings" "size" "I") (by decide +kernel)) (fun _ h9 => h9) rfl dX5_keep_1 ?_
  refine lv_aload_n hx hb dX5_keep_4 rfl (lv_at hl 0 rfl) ?_
  refine va_get (D := (dC, dI)) (ci := 4) (v := .ref h0_held) (C := RX5) (T := TX5) (N := 4) hx hb hts (by decide +kernel) hown hK hP 0 rfl rfl 0 (by decide) (hts (.fieldLink RX5 11 "PointRings" "held" "[LPointRings$Curve;") (by decide +kernel)) (fun _ h9 => h9) rfl dX5_keep_5 ?_
  refine va_alen (v := 24) hx hb hK hP 1 0 rfl rfl rfl dX5_keep_8 ?_
  refine lv_icmp_lt (tgt := 15) hx hb dX5_keep_9 (by decide) (fun c1 => ?_) (fun c1 => ?_)
  · refine lv_aload_n hx hb dX5_keep_15 rfl (lv_at hl 0 rfl) ?_
    refine va_get (D := (dC, dI)) (ci := 4) (v := .ref h0_held) (C := RX5) (T := TX5) (N := 4) hx hb hts (by decide +kernel) hown hK hP 0 rfl rfl 0 (by decide) (hts (.fieldLink RX5 11 "PointRings" "held" "[LPointRings$Curve;") (by decide +kernel)) (fun _ h9 => h9) rfl dX5_keep_16 ?_
    refine lv_aload_n hx hb dX5_keep_19 rfl (lv_at hl 0 rfl) ?_
    refine va_get (D := (dC, dI)) (ci := 4) (v := .int t_size) (C := RX5) (T := TX5) (N := 4) hx hb hts (by decide +kernel) hown hK hP 0 rfl rfl 1 (by decide) (hts (.fieldLink RX5 15 "PointRings" "size" "I") (by decide +kernel)) (fun _ h9 => h9) rfl dX5_keep_20 ?_
    refine lv_aload_n hx hb dX5_keep_23 rfl (lv_at hl 1 rfl) ?_
    have hi2 : ¬ (t_size < 0 ∨ 24 ≤ t_size.toNatClampNeg) := fun hz => absurd ((if_pos hz).symm.trans h) (fun hh => nomatch hh)
    replace h := (if_neg hi2).symm.trans h
    refine va_astq hx hb hK hP hD hS 1 0 2 0 rfl rfl rfl rfl hi2 dX5_keep_24 (fun H locs hP hD hS => ?_)
    have hP : va_P (dC, dI) vwCl [(h0, .inr (4, [.ref h0_held, .int t_size, .ref h0_roots, .ref h0_survey])), (h0_held, .inl (k_t_held, 24, .inr (.inr (.inr (.inr (va_up t_held t_size.toNatClampNeg (some h1))))))), (h1, .inr (0, [.int p0_p, .int p0_a, .int p0_b, .int p0_from, .int p0_kernelPoint, .int p0_kernelOrder, .int p0_points, .int p0_inner, .int p0_outer, .int p0_makersFound, .int p0_first, .int p0_second]))] H := hP
    have hD : va_D A [(h0, .inr (4, [.ref h0_held, .int t_size, .ref h0_roots, .ref h0_survey])), (h0_held, .inl (k_t_held, 24, .inr (.inr (.inr (.inr (va_up t_held t_size.toNatClampNeg (some h1))))))), (h1, .inr (0, [.int p0_p, .int p0_a, .int p0_b, .int p0_from, .int p0_kernelPoint, .int p0_kernelOrder, .int p0_points, .int p0_inner, .int p0_outer, .int p0_makersFound, .int p0_first, .int p0_second]))] := hD
    refine lv_aload_n hx hb dX5_keep_25 rfl (lv_at hl 0 rfl) ?_
    refine lv_dup hx hb dX5_keep_26 rfl ?_
    refine va_get (D := (dC, dI)) (ci := 4) (v := .int t_size) (C := RX5) (T := TX5) (N := 4) hx hb hts (by decide +kernel) hown hK hP 0 rfl rfl 1 (by decide) (hts (.fieldLink RX5 15 "PointRings" "size" "I") (by decide +kernel)) (fun _ h9 => h9) rfl dX5_keep_27 ?_
    refine lv_iconst (v := 1) hx hb dX5_keep_30 (by decide) ?_
    refine lv_iadd hx hb dX5_keep_31 ?_
    refine lv_topi (fun v3 ev3 => ?_)
    replace h := mi_use ev3 h
    refine va_put (D := (dC, dI)) (ci := 4) (v := .int v3) (ty := .int) (C := RX5) (T := TX5) (N := 4) hx hb hts (by decide +kernel) tyX5 tyX5_ok nmX5 hown hK hP hD hS 0 rfl rfl 1 (by decide) (hts (.fieldLink RX5 15 "PointRings" "size" "I") (by decide +kernel)) (fun _ h9 => h9) rfl (by decide +kernel) rfl rfl (Nat.le_of_ble_eq_true rfl) dX5_keep_32 (fun H locs hP hD hS => ?_)
    have hP : va_P (dC, dI) vwCl [(h0, .inr (4, [.ref h0_held, .int v3, .ref h0_roots, .ref h0_survey])), (h0_held, .inl (k_t_held, 24, .inr (.inr (.inr (.inr (va_up t_held t_size.toNatClampNeg (some h1))))))), (h1, .inr (0, [.int p0_p, .int p0_a, .int p0_b, .int p0_from, .int p0_kernelPoint, .int p0_kernelOrder, .int p0_points, .int p0_inner, .int p0_outer, .int p0_makersFound, .int p0_first, .int p0_second]))] H := hP
    have hD : va_D A [(h0, .inr (4, [.ref h0_held, .int v3, .ref h0_roots, .ref h0_survey])), (h0_held, .inl (k_t_held, 24, .inr (.inr (.inr (.inr (va_up t_held t_size.toNatClampNeg (some h1))))))), (h1, .inr (0, [.int p0_p, .int p0_a, .int p0_b, .int p0_from, .int p0_kernelPoint, .int p0_kernelOrder, .int p0_points, .int p0_inner, .int p0_outer, .int p0_makersFound, .int p0_first, .int p0_second]))] := hD
    refine lv_aload_n hx hb dX5_keep_35 rfl (lv_at hl 0 rfl) ?_
    refine va_get (D := (dC, dI)) (ci := 4) (v := .int v3) (C := RX5) (T := TX5) (N := 4) hx hb hts (by decide +kernel) hown hK hP 0 rfl rfl 1 (by decide) (hts (.fieldLink RX5 15 "PointRings" "size" "I") (by decide +kernel)) (fun _ h9 => h9) rfl dX5_keep_36 ?_
    refine lv_iconst (v := 1) hx hb dX5_keep_39 (by decide) ?_
    refine lv_isub hx hb dX5_keep_40 ?_
    have hv : (v3 - 1, v3) = rr := Option.some.inj h
    have hP9 := hP.sub (ws' := [(h0, .inr (4, [.ref h0_held, .int v3, .ref h0_roots, .ref h0_survey])), (h0_held, .inl (k_t_held, 24, .inr (.inr (.inr (.inr (va_up t_held t_size.toNatClampNeg (some h1))))))), (h1, .inr (0, [.int p0_p, .int p0_a, .int p0_b, .int p0_from, .int p0_kernelPoint, .int p0_kernelOrder, .int p0_points, .int p0_inner, .int p0_outer, .int p0_makersFound, .int p0_first, .int p0_second]))]) [0, 1, 2] rfl
    have hD9 := hD.sub (ws' := [(h0, .inr (4, [.ref h0_held, .int v3, .ref h0_roots, .ref h0_survey])), (h0_held, .inl (k_t_held, 24, .inr (.inr (.inr (.inr (va_up t_held t_size.toNatClampNeg (some h1))))))), (h1, .inr (0, [.int p0_p, .int p0_a, .int p0_b, .int p0_from, .int p0_kernelPoint, .int p0_kernelOrder, .int p0_points, .int p0_inner, .int p0_outer, .int p0_makersFound, .int p0_first, .int p0_second]))]) [0, 1, 2] (by decide) rfl
    have hK9 := hK.sub (tys' := [(k_t_held, .object "PointRings$Curve")]) [0] rfl
    exact W.iret (v := (v3 - 1)) hx hb hr (fun t ht hW => ⟨⟨v3 - 1, v3, rfl, hv, by rw [ht]; exact hP9, va_K.moved hW.alike hK9, hD9⟩, hS.F ht⟩) hS.2.2 dX5_keep_41
  · exact absurd hk0 c1
end
section
def mX5_keep_f (N : Nat)  : Option (Int32) := some (-4)
abbrev rmX5_keep_f : Room := { frames := 0, cells := 0, slots := 0, locals := 0 }
set_option maxHeartbeats 4000000 in
set_option maxRecDepth 100000 in
theorem ctX5_keep_f (l : Launch) (N : Nat) (dC : Nat → ClassId) (dI : Nat → Nat → Nat) (h0 : Nat) (h0_held : Nat) (h0_roots : Nat) (h0_survey : Nat) (h1 : Nat) (k_t_held : ClassId) (t_size : Int32) (t_held : Nat → Option Nat) (rr : Int32) (h : mX5_keep_f N  = some rr) (hk0 : ¬ t_size < 24) : Met l yX5_keep wsX5_keep rmX5_keep_f (va_Pc [.ref h0, .ref h1] (fun U => va_P (dC, dI) vwCl [(h0, .inr (4, [.ref h0_held, .int t_size, .ref h0_roots, .ref h0_survey])), (h0_held, .inl (k_t_held, 24, .inr (.inr (.inr (.inr t_held)))))] U.heap ∧ va_K (dC, dI) vwCl [(k_t_held, .object "PointRings$Curve")] U ∧ nw_all U)) (vp_Si (fun r => r = rr)) 0 0 (fun _ => False) := by
  refine Met.ofW (cc := cX5_keep) (maxL := 2) (ret := (some .int)) (by decide) rfl ?_
  intro p e s m args below meth c s₁ B hml hv
  obtain ⟨rfl, hP, hK, hN⟩ := hv
  have hx := B.exec
  have hb := B.bytes
  have hr := B.returns
  have hts := atoms_spec (ws := wsX5_keep) B.pre
  have hown : s.vm.findClass RX5 = some m.cls := findClass_of_methodNamed B.named
  have hlocks := B.notSynchronized
  have hl := lv_entry ([.ref h0, .ref h1]) (n := 2) (Nat.le_of_ble_eq_true rfl)
  rw [lg_entry_eq]
  generalize (lg_sl ([.ref h0, .ref h1]) ++ List.replicate (2 - (lg_sl ([.ref h0, .ref h1])).length) Slot.unset).toArray = ls at hl ⊢
  have hl : lv_has ls 2 [(0, .ref h0), (1, .ref h1)] := hl
  dsimp only [mX5_keep_f] at h
  refine lv_aload_n hx hb dX5_keep_0 rfl (lv_at hl 0 rfl) ?_
  refine va_get (D := (dC, dI)) (ci := 4) (v := .int t_size) (C := RX5) (T := TX5) (N := 4) hx hb hts (by decide +kernel) hown hK hP 0 rfl rfl 1 (by decide) (hts (.fieldLink RX5 15 "PointRings" "size" "I") (by decide +kernel)) (fun _ h9 => h9) rfl dX5_keep_1 ?_
  refine lv_aload_n hx hb dX5_keep_4 rfl (lv_at hl 0 rfl) ?_
  refine va_get (D := (dC, dI)) (ci := 4) (v := .ref h0_held) (C := RX5) (T := TX5) (N := 4) hx hb hts (by decide +kernel) hown hK hP 0 rfl rfl 0 (by decide) (hts (.fieldLink RX5 11 "PointRings" "held" "[LPointRings$Curve;") (by decide +kernel)) (fun _ h9 => h9) rfl dX5_keep_5 ?_
  refine va_alen (v := 24) hx hb hK hP 1 0 rfl rfl rfl dX5_keep_8 ?_
  refine lv_icmp_lt (tgt := 15) hx hb dX5_keep_9 (by decide) (fun c1 => ?_) (fun c1 => ?_)
  · exact absurd c1 hk0
  · refine lv_bipush (v := (-4)) hx hb dX5_keep_12 (by decide) ?_
    have hv : (-4) = rr := Option.some.inj h
    exact W.iret (v := (-4)) hx hb hr (fun t ht hW => ⟨_, rfl, hv, ht⟩) (fun q hq => absurd hq List.not_mem_nil) dX5_keep_14
end
section
def mX5_curve (N : Nat) (t_size : Int32) (a0 : Int32) (a1 : Int32) (a2 : Int32) : Option ((Int32 × Int32) ⊕ (Int32 × Int32 × Int32 × Int32 × Int32 × Int32 × Int32 × Int32 × Int32 × Int32 × Int32 × Int32 × Int32 × Int32)) := (mX4_isFieldPrime N a0).bind (fun r1 => if r1 = 0 then some (.inl ((-2), t_size)) else (mX4_isBelow N a1 a0).bind (fun r3 => if r3 = 0 then some (.inl ((-2), t_size)) else (mX4_isBelow N a2 a0).bind (fun r5 => if r5 = 0 then some (.inl ((-2), t_size)) else (mX4_cubicMark N a1 a2 a0).bind (fun r7 => if r7 = 0 then some (.inl ((-3), t_size)) else (mX0_init N a0 a1 a2).bind (fun r9 => match r9 with | (u10, u11, u12, u13, u14) => if t_size < 24 then (mX5_keep_k N t_size).bind (fun r16 => match r16 with | (r18, u17) => some (.inr (r18, u17, u10, u11, u12, 0, 0, 0, 0, 0, 0, 0, u13, u14))) else some (.inl ((-4), t_size)))))))
abbrev rmX5_curve_l : Room := { frames := 3, cells := 1, slots := 12, locals := 61 }
set_option maxHeartbeats 4000000 in
set_option maxRecDepth 100000 in
theorem ctX5_curve_l (l : Launch) (N : Nat) (dC : Nat → ClassId) (dI : Nat → Nat → Nat) (sz : Nat) (h0 : Nat) (h0_held : Nat) (h0_roots : Nat) (h0_survey : Nat) (k_t_held : ClassId) (t_size : Int32) (t_held : Nat → Option Nat) (a0 : Int32) (a1 : Int32) (a2 : Int32) (rr : Int32 × Int32) (h : mX5_curve N t_size a0 a1 a2 = some (.inl rr)) : Met l yX5_curve wsX5_curve rmX5_curve_l (va_Pc [.ref h0, .int a0, .int a1, .int a2] (fun U => U.heap.size = sz ∧ va_P (dC, dI) vwCl [(h0, .inr (4, [.ref h0_held, .int t_size, .ref h0_roots, .ref h0_survey])), (h0_held, .inl (k_t_held, 24, .inr (.inr (.inr (.inr t_held)))))] U.heap ∧ va_K (dC, dI) vwCl [(k_t_held, .object "PointRings$Curve")] U ∧ nw_all U ∧ va_D (fun _ => True) [(h0, .inr (4, [.ref h0_held, .int t_size, .ref h0_roots, .ref h0_survey])), (h0_held, .inl (k_t_held, 24, .inr (.inr (.inr (.inr t_held)))))])) (va_Qi (fun (r : Int32) (u : Int32) => (r, u) = rr) (fun (u : Int32) t => match u with | u0 => va_P (dC, dI) vwCl [(h0, .inr (4, [.ref h0_held, .int u0, .ref h0_roots, .ref h0_survey])), (h0_held, .inl (k_t_held, 24, .inr (.inr (.inr (.inr t_held)))))] t.heap ∧ va_K (dC, dI) vwCl [(k_t_held, .object "PointRings$Curve")] t ∧ va_D (va_A [(h0, .inr (4, [.ref h0_held, .int t_size, .ref h0_roots, .ref h0_survey])), (h0_held, .inl (k_t_held, 24, .inr (.inr (.inr (.inr t_held)))))] sz) [(h0, .inr (4, [.ref h0_held, .int u0, .ref h0_roots, .ref h0_survey])), (h0_held, .inl (k_t_held, 24, .inr (.inr (.inr (.inr t_held)))))]) (va_A [(h0, .inr (4, [.ref h0_held, .int t_size, .ref h0_roots, .ref h0_survey])), (h0_held, .inl (k_t_held, 24, .inr (.inr (.inr (.inr t_held)))))] sz)) 1 12 (va_A [(h0, .inr (4, [.ref h0_held, .int t_size, .ref h0_roots, .ref h0_survey])), (h0_held, .inl (k_t_held, 24, .inr (.inr (.inr (.inr t_held)))))] sz) := by
  refine Met.ofW (cc := cX5_curve) (maxL := 4) (ret := (some .int)) (by decide) rfl ?_
  intro p e s m args below meth c s₁ B hml hv
  obtain ⟨rfl, hsz, hP, hK, hN, hD0⟩ := hv
  have hx := B.exec
  have hb := B.bytes
  have hr := B.returns
  have hts := atoms_spec (ws := wsX5_curve) B.pre
  have hown : s.vm.findClass RX5 = some m.cls := findClass_of_methodNamed B.named
  have hlocks := B.notSynchronized
  subst hsz
  have hD := hD0.self (sz := s.heap.size)
  generalize hAe : va_A [(h0, .inr (4, [.ref h0_held, .int t_size, .ref h0_roots, .ref h0_survey])), (h0_held, .inl (k_t_held, 24, .inr (.inr (.inr (.inr t_held)))))] s.heap.size = A at hD ⊢
  have hA0 : ∀ q : Nat, s.heap.size ≤ q → A q := fun q h => by rw [← hAe]; exact Or.inr h
  have hS : va_S A s.heap s.heap [] := va_S.rf
  have hP : va_P (dC, dI) vwCl [(h0, .inr (4, [.ref h0_held, .int t_size, .ref h0_roots, .ref h0_survey])), (h0_held, .inl (k_t_held, 24, .inr (.inr (.inr (.inr t_held)))))] s.heap := hP
  have hl := lv_entry ([.ref h0, .int a0, .int a1, .int a2]) (n := 4) (Nat.le_of_ble_eq_true rfl)
  rw [lg_entry_eq]
  generalize (lg_sl ([.ref h0, .int a0, .int a1, .int a2]) ++ List.replicate (4 - (lg_sl ([.ref h0, .int a0, .int a1, .int a2])).length) Slot.unset).toArray = ls at hl ⊢
  have hl : lv_has ls 4 [(0, .ref h0), (1, .int a0), (2, .int a1), (3, .int a2)] := hl
  dsimp only [mX5_curve] at h
  refine lv_iload_n hx hb dX5_curve_0 rfl (lv_at hl 1 rfl) ?_
  obtain ⟨r1, hr1, h⟩ := Option.bind_eq_some_iff.mp h
  refine vp_callSi (W.runS (As := [.int a0]) (rest := []) ⟨hx, hb, hml, hown, hts⟩ (ctX4_isFieldPrime l N  a0 r1 hr1) (va_cwS 1 hts gX5_curve_X4_isFieldPrime rfl rfl rfl (by decide +kernel) ⟨Nat.le_of_ble_eq_true rfl, Nat.le_of_ble_eq_true rfl⟩) preEq rfl rfl hl.1 rfl (lv_room (Nat.le_of_ble_eq_true rfl)) dX5_curve_1 ⟨Nat.le_of_ble_eq_true rfl, Nat.le_of_ble_eq_true rfl⟩) (fun q9 eq9 => ?_)
  subst eq9
  refine lv_if_eq (tgt := 23) hx hb dX5_curve_4 (by decide) (fun c2 => ?_) (fun c2 => ?_)
  · replace h := (if_pos c2).symm.trans h
    refine lv_bipush (v := (-2)) hx hb dX5_curve_23 (by decide) ?_
    have hv : ((-2), t_size) = rr := Sum.inl.inj (Option.some.inj h)
    have hP9 := hP.sub (ws' := [(h0, .inr (4, [.ref h0_held, .int t_size, .ref h0_roots, .ref h0_survey])), (h0_held, .inl (k_t_held, 24, .inr (.inr (.inr (.inr t_held)))))]) [0, 1] rfl
    have hD9 := hD.sub (ws' := [(h0, .inr (4, [.ref h0_held, .int t_size, .ref h0_roots, .ref h0_survey])), (h0_held, .inl (k_t_held, 24, .inr (.inr (.inr (.inr t_held)))))]) [0, 1] (by decide) rfl
    have hK9 := hK.sub (tys' := [(k_t_held, .object "PointRings$Curve")]) [0] rfl
    refine W.widen (k := 1) (n := 12) (by decide +kernel) (by decide +kernel) ?_
    exact W.iret (v := (-2)) hx hb hr (fun t ht hW => ⟨⟨(-2), t_size, rfl, hv, by rw [ht]; exact hP9, va_K.moved hW.alike hK9, hD9⟩, hS.F ht⟩) hS.2.2 dX5_curve_25
  · replace h := (if_neg c2).symm.trans h
    refine lv_iload_n hx hb dX5_curve_7 rfl (lv_at hl 2 rfl) ?_
    refine lv_iload_n hx hb dX5_curve_8 rfl (lv_at hl 1 rfl) ?_
    obtain ⟨r3, hr3, h⟩ := Option.bind_eq_some_iff.mp h
    refine vp_callSi (W.runS (As := [.int a1, .int a0]) (rest := []) ⟨hx, hb, hml, hown, hts⟩ (ctX4_isBelow l N  a1 a0 r3 hr3) (va_cwS 2 hts gX5_curve_X4_isBelow rfl rfl rfl (by decide +kernel) ⟨Nat.le_of_ble_eq_true rfl, Nat.le_of_ble_eq_true rfl⟩) preEq rfl rfl hl.1 rfl (lv_room (Nat.le_of_ble_eq_true rfl)) dX5_curve_9 ⟨Nat.le_of_ble_eq_true rfl, Nat.le_of_ble_eq_true rfl⟩) (fun q9 eq9 => ?_)
    subst eq9
    refine lv_if_eq (tgt := 23) hx hb dX5_curve_12 (by decide) (fun c4 => ?_) (fun c4 => ?_)
    · replace h := (if_pos c4).symm.trans h
      refine lv_bipush (v := (-2)) hx hb dX5_curve_23 (by decide) ?_
      have hv : ((-2), t_size) = rr := Sum.inl.inj (Option.some.inj h)
      have hP9 := hP.sub (ws' := [(h0, .inr (4, [.ref h0_held, .int t_size, .ref h0_roots, .ref h0_survey])), (h0_held, .inl (k_t_held, 24, .inr (.inr (.inr (.inr t_held)))))]) [0, 1] rfl
      have hD9 := hD.sub (ws' := [(h0, .inr (4, [.ref h0_held, .int t_size, .ref h0_roots, .ref h0_survey])), (h0_held, .inl (k_t_held, 24, .inr (.inr (.inr (.inr t_held)))))]) [0, 1] (by decide) rfl
      have hK9 := hK.sub (tys' := [(k_t_held, .object "PointRings$Curve")]) [0] rfl
      refine W.widen (k := 1) (n := 12) (by decide +kernel) (by decide +kernel) ?_
      exact W.iret (v := (-2)) hx hb hr (fun t ht hW => ⟨⟨(-2), t_size, rfl, hv, by rw [ht]; exact hP9, va_K.moved hW.alike hK9, hD9⟩, hS.F ht⟩) hS.2.2 dX5_curve_25
    · replace h := (if_neg c4).symm.trans h
      refine lv_iload_n hx hb dX5_curve_15 rfl (lv_at hl 3 rfl) ?_
      refine lv_iload_n hx hb dX5_curve_16 rfl (lv_at hl 1 rfl) ?_
      obtain ⟨r5, hr5, h⟩ := Option.bind_eq_some_iff.mp h
      refine vp_callSi (W.runS (As := [.int a2, .int a0]) (rest := []) ⟨hx, hb, hml, hown, hts⟩ (ctX4_isBelow l N  a2 a0 r5 hr5) (va_cwS 2 hts gX5_curve_X4_isBelow rfl rfl rfl (by decide +kernel) ⟨Nat.le_of_ble_eq_true rfl, Nat.le_of_ble_eq_true rfl⟩) preEq rfl rfl hl.1 rfl (lv_room (Nat.le_of_ble_eq_true rfl)) dX5_curve_17 ⟨Nat.le_of_ble_eq_true rfl, Nat.le_of_ble_eq_true rfl⟩) (fun q9 eq9 => ?_)
      subst eq9
      refine lv_if_ne (tgt := 26) hx hb dX5_curve_20 (by decide) (fun c6 => ?_) (fun c6 => ?_)
      · replace h := (if_neg c6).symm.trans h
        refine lv_iload_n hx hb dX5_curve_26 rfl (lv_at hl 2 rfl) ?_
        refine lv_iload_n hx hb dX5_curve_27 rfl (lv_at hl 3 rfl) ?_
        refine lv_iload_n hx hb dX5_curve_28 rfl (lv_at hl 1 rfl) ?_
        obtain ⟨r7, hr7, h⟩ := Option.bind_eq_some_iff.mp h
        refine vp_callSi (W.runS (As := [.int a1, .int a2, .int a0]) (rest := []) ⟨hx, hb, hml, hown, hts⟩ (ctX4_cubicMark l N  a1 a2 a0 r7 hr7) (va_cwS 3 hts gX5_curve_X4_cubicMark rfl rfl rfl (by decide +kernel) ⟨Nat.le_of_ble_eq_true rfl, Nat.le_of_ble_eq_true rfl⟩) preEq rfl rfl hl.1 rfl (lv_room (Nat.le_of_ble_eq_true rfl)) dX5_curve_29 ⟨Nat.le_of_ble_eq_true rfl, Nat.le_of_ble_eq_true rfl⟩) (fun q9 eq9 => ?_)
        subst eq9
        refine lv_if_ne (tgt := 38) hx hb dX5_curve_32 (by decide) (fun c8 => ?_) (fun c8 => ?_)
        · replace h := (if_neg c8).symm.trans h
          refine lv_aload_n hx hb dX5_curve_38 rfl (lv_at hl 0 rfl) ?_
          refine va_new (ci := 0) (fs := [.int 0, .int 0, .int 0, .int 0, .int 0, .int 0, .int 0, .int 0, .int 0, .int 0, .int 0, .int 0]) (C := RX0) (T := TX0) (N := 12) hx hb hts (by decide +kernel) tyX0 tyX0_ok hown (hts (.classLink RX5 9 RX0) (by decide +kernel)) (hts (.instantiable RX0 12) (by decide +kernel)) (hts (.initialized RX0) (by decide +kernel)) hK hP hD hS hA0 rfl (fun j hj => by rcases (show j = 0 ∨ j = 1 ∨ j = 2 ∨ j = 3 ∨ j = 4 ∨ j = 5 ∨ j = 6 ∨ j = 7 ∨ j = 8 ∨ j = 9 ∨ j = 10 ∨ j = 11 by omega) with rfl | rfl | rfl | rfl | rfl | rfl | rfl | rfl | rfl | rfl | rfl | rfl <;> rfl) (by decide +kernel) (by decide +kernel) dX5_curve_39 (fun q39 H hP hD hS => ?_)
          have hP : va_P (dC, dI) vwCl [(h0, .inr (4, [.ref h0_held, .int t_size, .ref h0_roots, .ref h0_survey])), (h0_held, .inl (k_t_held, 24, .inr (.inr (.inr (.inr t_held))))), (q39, .inr (0, [.int 0, .int 0, .int 0, .int 0, .int 0, .int 0, .int 0, .int 0, .int 0, .int 0, .int 0, .int 0]))] H := hP
          have hD : va_D A [(h0, .inr (4, [.ref h0_held, .int t_size, .ref h0_roots, .ref h0_survey])), (h0_held, .inl (k_t_held, 24, .inr (.inr (.inr (.inr t_held))))), (q39, .inr (0, [.int 0, .int 0, .int 0, .int 0, .int 0, .int 0, .int 0, .int 0, .int 0, .int 0, .int 0, .int 0]))] := hD
          refine lv_dup hx hb dX5_curve_42 rfl ?_
          refine lv_iload_n hx hb dX5_curve_43 rfl (lv_at hl 1 rfl) ?_
          refine lv_iload_n hx hb dX5_curve_44 rfl (lv_at hl 2 rfl) ?_
          refine lv_iload_n hx hb dX5_curve_45 rfl (lv_at hl 3 rfl) ?_
          obtain ⟨r9, hr9, h⟩ := Option.bind_eq_some_iff.mp h
          have hPc := hP.sub (ws' := [(q39, .inr (0, [.int 0, .int 0, .int 0, .int 0, .int 0, .int 0, .int 0, .int 0, .int 0, .int 0, .int 0, .int 0]))]) [2] rfl
          have hDc := hD.sub (ws' := [(q39, .inr (0, [.int 0, .int 0, .int 0, .int 0, .int 0, .int 0, .int 0, .int 0, .int 0, .int 0, .int 0, .int 0]))]) [2] (by decide) rfl
          have hKc := hK.sub (tys' := []) [] rfl
          have hFc := va_free (wc := [(q39, .inr (0, [.int 0, .int 0, .int 0, .int 0, .int 0, .int 0, .int 0, .int 0, .int 0, .int 0, .int 0, .int 0]))]) hD hS hA0 [2] rfl
          refine va_callv (va_runI (As := [.int a0, .int a1, .int a2]) (rest := [.ref q39, .ref h0]) ⟨hx, hb, hml, hown, hts⟩ (ctX0_init l N dC dI _ q39 0 0 0 0 0 0 0 0 0 0 0 0 a0 a1 a2 r9 hr9) (cwI 3 hts gX5_curve_X0_init rfl rfl rfl (hts (.initialized RX0) (by decide +kernel)) (hts (.methodLink RX5 49 yX0_init) (by decide +kernel)) (hts (.instanceMethod yX0_init) (by decide +kernel)) rfl (by decide +kernel) ⟨Nat.le_of_ble_eq_true rfl, Nat.le_of_ble_eq_true rfl⟩) ⟨fun a U g mk q => by obtain ⟨q0, q1, qP, qK, qN, qD⟩ := q; exact ⟨q0, q1, qP, va_K.moved (u := U) (U := U.calling g mk a) (Vm.Alike.refl U.vm) qK, nw_same (u := U) (U := U.calling g mk a) rfl qN, qD⟩, fun U hU hW => ⟨rfl, by rw [hU], by rw [hU]; exact hPc, va_K.moved hW.alike hKc, nw_warm hW hN, hDc.weaken (fun _ _ _ _ => trivial)⟩⟩ rfl rfl hl.1 rfl (lv_room (Nat.le_of_ble_eq_true rfl)) dX5_curve_46 ⟨Nat.le_of_ble_eq_true rfl, Nat.le_of_ble_eq_true rfl⟩) hS (fun q _ h => hFc q h) hFc (fun u t H1 locs ht hvm hw hB1 hz1 hk1 hS => ?_)
          obtain ⟨u10, u11, u12, u13, u14⟩ := u
          obtain ⟨hP1, hK1, hD1⟩ := hB1
          rw [ht] at hP1
          have hK1 := va_K.moved hvm.symm hK1
          subst hw
          dsimp only at h
          obtain ⟨hP, hD⟩ := va_join (wr := [(h0, .inr (4, [.ref h0_held, .int t_size, .ref h0_roots, .ref h0_survey])), (h0_held, .inl (k_t_held, 24, .inr (.inr (.inr (.inr t_held)))))]) (w1 := [(q39, .inr (0, [.int u10, .int u11, .int u12, .int 0, .int 0, .int 0, .int 0, .int 0, .int 0, .int 0, .int u13, .int u14]))]) hP hD [2] [0, 1] rfl rfl (by decide) (by decide) hk1 hFc hP1 hD1
          generalize H1 = H at hP hS ⊢
          have hP := hP.sub (ws' := [(h0, .inr (4, [.ref h0_held, .int t_size, .ref h0_roots, .ref h0_survey])), (h0_held, .inl (k_t_held, 24, .inr (.inr (.inr (.inr t_held))))), (q39, .inr (0, [.int u10, .int u11, .int u12, .int 0, .int 0, .int 0, .int 0, .int 0, .int 0, .int 0, .int u13, .int u14]))]) [0, 1, 2] rfl
          have hD := hD.sub (ws' := [(h0, .inr (4, [.ref h0_held, .int t_size, .ref h0_roots, .ref h0_survey])), (h0_held, .inl (k_t_held, 24, .inr (.inr (.inr (.inr t_held))))), (q39, .inr (0, [.int u10, .int u11, .int u12, .int 0, .int 0, .int 0, .int 0, .int 0, .int 0, .int 0, .int u13, .int u14]))]) [0, 1, 2] (by decide) rfl
          by_cases c15 : t_size < 24
          · replace h := (if_pos c15).symm.trans h
            obtain ⟨r16, hr16, h⟩ := Option.bind_eq_some_iff.mp h
            have hPc := hP.sub (ws' := [(h0, .inr (4, [.ref h0_held, .int t_size, .ref h0_roots, .ref h0_survey])), (h0_held, .inl (k_t_held, 24, .inr (.inr (.inr (.inr t_held))))), (q39, .inr (0, [.int u10, .int u11, .int u12, .int 0, .int 0, .int 0, .int 0, .int 0, .int 0, .int 0, .int u13, .int u14]))]) [0, 1, 2] rfl
            have hDc := hD.sub (ws' := [(h0, .inr (4, [.ref h0_held, .int t_size, .ref h0_roots, .ref h0_survey])), (h0_held, .inl (k_t_held, 24, .inr (.inr (.inr (.inr t_held))))), (q39, .inr (0, [.int u10, .int u11, .int u12, .int 0, .int 0, .int 0, .int 0, .int 0, .int 0, .int 0, .int u13, .int u14]))]) [0, 1, 2] (by decide) rfl
            have hKc := hK.sub (tys' := [(k_t_held, .object "PointRings$Curve")]) [0] rfl
            have hFc := va_free (wc := [(h0, .inr (4, [.ref h0_held, .int t_size, .ref h0_roots, .ref h0_survey])), (h0_held, .inl (k_t_held, 24, .inr (.inr (.inr (.inr t_held))))), (q39, .inr (0, [.int u10, .int u11, .int u12, .int 0, .int 0, .int 0, .int 0, .int 0, .int 0, .int 0, .int u13, .int u14]))]) hD hS hA0 [0, 1, 2] rfl
            refine va_calli (va_runV (As := [.ref q39]) (rest := []) ⟨hx, hb, hml, hown, hts⟩ (ctX5_keep_k l N dC dI _ h0 h0_held q39 h0_roots h0_survey k_t_held t_size t_held u10 u11 u12 0 0 0 0 0 0 0 u13 u14 r16 hr16 c15) (cwV 1 hts gX5_curve_X5_keep rfl rfl rfl (by decide +kernel) ⟨Nat.le_of_ble_eq_true rfl, Nat.le_of_ble_eq_true rfl⟩) ⟨fun a U g mk q => by obtain ⟨q0, q1, qP, qK, qN, qD⟩ := q; exact ⟨q0, q1, qP, va_K.moved (u := U) (U := U.calling g mk a) (Vm.Alike.refl U.vm) qK, nw_same (u := U) (U := U.calling g mk a) rfl qN, qD⟩, va_recv hKc hPc (ci := 4) (q0 := 0) rfl rfl, fun U hU hW => ⟨rfl, by rw [hU], by rw [hU]; exact hPc, va_K.moved hW.alike hKc, nw_warm hW hN, hDc.weaken (fun _ _ _ _ => trivial)⟩⟩ rfl rfl hl.1 rfl (lv_room (Nat.le_of_ble_eq_true rfl)) dX5_curve_49 ⟨Nat.le_of_ble_eq_true rfl, Nat.le_of_ble_eq_true rfl⟩) hS (fun q _ h => hFc q h) hFc (fun rz u t H1 locs ht hvm hw hB1 hz1 hk1 hS => ?_)
            obtain ⟨u17, rfl⟩ : ∃ z, z = u := ⟨_, rfl⟩
            obtain ⟨hP1, hK1, hD1⟩ := hB1
            rw [ht] at hP1
            have hK1 := va_K.moved hvm.symm hK1
            obtain ⟨r18, rfl⟩ : ∃ z, z = rz := ⟨_, rfl⟩
            subst hw
            dsimp only at h
            obtain ⟨hP, hD⟩ := va_join (wr := []) (w1 := [(h0, .inr (4, [.ref h0_held, .int u17, .ref h0_roots, .ref h0_survey])), (h0_held, .inl (k_t_held, 24, .inr (.inr (.inr (.inr (va_up t_held t_size.toNatClampNeg (some q39))))))), (q39, .inr (0, [.int u10, .int u11, .int u12, .int 0, .int 0, .int 0, .int 0, .int 0, .int 0, .int 0, .int u13, .int u14]))]) hP hD [0, 1, 2] [] rfl rfl (by decide) (by decide) hk1 hFc hP1 hD1
            generalize H1 = H at hP hS ⊢
            have hP := hP.sub (ws' := [(h0, .inr (4, [.ref h0_held, .int u17, .ref h0_roots, .ref h0_survey])), (h0_held, .inl (k_t_held, 24, .inr (.inr (.inr (.inr (va_up t_held t_size.toNatClampNeg (some q39))))))), (q39, .inr (0, [.int u10, .int u11, .int u12, .int 0, .int 0, .int 0, .int 0, .int 0, .int 0, .int 0, .int u13, .int u14]))]) [0, 1, 2] rfl
            have hD := hD.sub (ws' := [(h0, .inr (4, [.ref h0_held, .int u17, .ref h0_roots, .ref h0_survey])), (h0_held, .inl (k_t_held, 24, .inr (.inr (.inr (.inr (va_up t_held t_size.toNatClampNeg (some q39))))))), (q39, .inr (0, [.int u10, .int u11, .int u12, .int 0, .int 0, .int 0, .int 0, .int 0, .int 0, .int 0, .int u13, .int u14]))]) [0, 1, 2] (by decide) rfl
            exact absurd (Option.some.inj h) (fun hh => nomatch hh)
          · replace h := (if_neg c15).symm.trans h
            have hPc := hP.sub (ws' := [(h0, .inr (4, [.ref h0_held, .int t_size, .ref h0_roots, .ref h0_survey])), (h0_held, .inl (k_t_held, 24, .inr (.inr (.inr (.inr t_held)))))]) [0, 1] rfl
            have hKc := hK.sub (tys' := [(k_t_held, .object "PointRings$Curve")]) [0] rfl
            refine vp_callSi (W.runV (As := [.ref q39]) (rest := []) ⟨hx, hb, hml, hown, hts⟩ (ctX5_keep_f l N dC dI  h0 h0_held h0_roots h0_survey q39 k_t_held t_size t_held (-4) rfl c15) (cwV 1 hts gX5_curve_X5_keep rfl rfl rfl (by decide +kernel) ⟨Nat.le_of_ble_eq_true rfl, Nat.le_of_ble_eq_true rfl⟩) ⟨fun a U g mk q => by obtain ⟨q0, qP, qK, qN⟩ := q; exact ⟨q0, qP, va_K.moved (u := U) (U := U.calling g mk a) (Vm.Alike.refl U.vm) qK, nw_same (u := U) (U := U.calling g mk a) rfl qN⟩, va_recv hKc hPc (ci := 4) (q0 := 0) rfl rfl, fun U hU hW => ⟨rfl, by rw [hU]; exact hPc, va_K.moved hW.alike hKc, nw_warm hW hN⟩⟩ rfl rfl hl.1 rfl (lv_room (Nat.le_of_ble_eq_true rfl)) dX5_curve_49 ⟨Nat.le_of_ble_eq_true rfl, Nat.le_of_ble_eq_true rfl⟩) (fun q9 eq9 => ?_)
            subst eq9
            have hv : ((-4), t_size) = rr := Sum.inl.inj (Option.some.inj h)
            have hP9 := hP.sub (ws' := [(h0, .inr (4, [.ref h0_held, .int t_size, .ref h0_roots, .ref h0_survey])), (h0_held, .inl (k_t_held, 24, .inr (.inr (.inr (.inr t_held)))))]) [0, 1] rfl
            have hD9 := hD.sub (ws' := [(h0, .inr (4, [.ref h0_held, .int t_size, .ref h0_roots, .ref h0_survey])), (h0_held, .inl (k_t_held, 24, .inr (.inr (.inr (.inr t_held)))))]) [0, 1] (by decide) rfl
            have hK9 := hK.sub (tys' := [(k_t_held, .object "PointRings$Curve")]) [0] rfl
            refine W.widen (k := 1) (n := 12) (by decide +kernel) (by decide +kernel) ?_
            exact W.iret (v := (-4)) hx hb hr (fun t ht hW => ⟨⟨(-4), t_size, rfl, hv, by rw [ht]; exact hP9, va_K.moved hW.alike hK9, hD9⟩, hS.F ht⟩) hS.2.2 dX5_curve_52
        · replace h := (if_pos c8).symm.trans h
          refine lv_bipush (v := (-3)) hx hb dX5_curve_35 (by decide) ?_
          have hv : ((-3), t_size) = rr := Sum.inl.inj (Option.some.inj h)
          have hP9 := hP.sub (ws' := [(h0, .inr (4, [.ref h0_held, .int t_size, .ref h0_roots, .ref h0_survey])), (h0_held, .inl (k_t_held, 24, .inr (.inr (.inr (.inr t_held)))))]) [0, 1] rfl
          have hD9 := hD.sub (ws' := [(h0, .inr (4, [.ref h0_held, .int t_size, .ref h0_roots, .ref h0_survey])), (h0_held, .inl (k_t_held, 24, .inr (.inr (.inr (.inr t_held)))))]) [0, 1] (by decide) rfl
          have hK9 := hK.sub (tys' := [(k_t_held, .object "PointRings$Curve")]) [0] rfl
          refine W.widen (k := 1) (n := 12) (by decide +kernel) (by decide +kernel) ?_
          exact W.iret (v := (-3)) hx hb hr (fun t ht hW => ⟨⟨(-3), t_size, rfl, hv, by rw [ht]; exact hP9, va_K.moved hW.alike hK9, hD9⟩, hS.F ht⟩) hS.2.2 dX5_curve_37
      · replace h := (if_pos c6).symm.trans h
        refine lv_bipush (v := (-2)) hx hb dX5_curve_23 (by decide) ?_
        have hv : ((-2), t_size) = rr := Sum.inl.inj (Option.some.inj h)
        have hP9 := hP.sub (ws' := [(h0, .inr (4, [.ref h0_held, .int t_size, .ref h0_roots, .ref h0_survey])), (h0_held, .inl (k_t_held, 24, .inr (.inr (.inr (.inr t_held)))))]) [0, 1] rfl
        have hD9 := hD.sub (ws' := [(h0, .inr (4, [.ref h0_held, .int t_size, .ref h0_roots, .ref h0_survey])), (h0_held, .inl (k_t_held, 24, .inr (.inr (.inr (.inr t_held)))))]) [0, 1] (by decide) rfl
        have hK9 := hK.sub (tys' := [(k_t_held, .object "PointRings$Curve")]) [0] rfl
        refine W.widen (k := 1) (n := 12) (by decide +kernel) (by decide +kernel) ?_
        exact W.iret (v := (-2)) hx hb hr (fun t ht hW => ⟨⟨(-2), t_size, rfl, hv, by rw [ht]; exact hP9, va_K.moved hW.alike hK9, hD9⟩, hS.F ht⟩) hS.2.2 dX5_curve_25
abbrev rmX5_curve_r : Room := { frames := 3, cells := 1, slots := 12, locals := 61 }
set_option maxHeartbeats 4000000 in
set_option maxRecDepth 100000 in
theorem ctX5_curve_r (l : Launch) (N : Nat) (dC : Nat → ClassId) (dI : Nat → Nat → Nat) (sz : Nat) (h0 : Nat) (h0_held : Nat) (h0_roots : Nat) (h0_survey : Nat) (k_t_held : ClassId) (t_size : Int32) (t_held : Nat → Option Nat) (a0 : Int32) (a1 : Int32) (a2 : Int32) (rr : Int32 × Int32 × Int32 × Int32 × Int32 × Int32 × Int32 × Int32 × Int32 × Int32 × Int32 × Int32 × Int32 × Int32) (h : mX5_curve N t_size a0 a1 a2 = some (.inr rr)) : Met l yX5_curve wsX5_curve rmX5_curve_r (va_Pc [.ref h0, .int a0, .int a1, .int a2] (fun U => U.heap.size = sz ∧ va_P (dC, dI) vwCl [(h0, .inr (4, [.ref h0_held, .int t_size, .ref h0_roots, .ref h0_survey])), (h0_held, .inl (k_t_held, 24, .inr (.inr (.inr (.inr t_held)))))] U.heap ∧ va_K (dC, dI) vwCl [(k_t_held, .object "PointRings$Curve")] U ∧ nw_all U ∧ va_D (fun _ => True) [(h0, .inr (4, [.ref h0_held, .int t_size, .ref h0_roots, .ref h0_survey])), (h0_held, .inl (k_t_held, 24, .inr (.inr (.inr (.inr t_held)))))])) (va_Qi (fun (r : Int32) (u : Int32 × Int32 × Int32 × Int32 × Int32 × Int32 × Int32 × Int32 × Int32 × Int32 × Int32 × Int32 × Int32) => (r, u) = rr) (fun (u : Int32 × Int32 × Int32 × Int32 × Int32 × Int32 × Int32 × Int32 × Int32 × Int32 × Int32 × Int32 × Int32) t => match u with | (u0, u1, u2, u3, u4, u5, u6, u7, u8, u9, u10, u11, u12) => ∃ q39 : Nat, va_P (dC, dI) vwCl [(h0, .inr (4, [.ref h0_held, .int u0, .ref h0_roots, .ref h0_survey])), (h0_held, .inl (k_t_held, 24, .inr (.inr (.inr (.inr (va_up t_held t_size.toNatClampNeg (some q39))))))), (q39, .inr (0, [.int u1, .int u2, .int u3, .int u4, .int u5, .int u6, .int u7, .int u8, .int u9, .int u10, .int u11, .int u12]))] t.heap ∧ va_K (dC, dI) vwCl [(k_t_held, .object "PointRings$Curve")] t ∧ va_D (va_A [(h0, .inr (4, [.ref h0_held, .int t_size, .ref h0_roots, .ref h0_survey])), (h0_held, .inl (k_t_held, 24, .inr (.inr (.inr (.inr t_held)))))] sz) [(h0, .inr (4, [.ref h0_held, .int u0, .ref h0_roots, .ref h0_survey])), (h0_held, .inl (k_t_held, 24, .inr (.inr (.inr (.inr (va_up t_held t_size.toNatClampNeg (some q39))))))), (q39, .inr (0, [.int u1, .int u2, .int u3, .int u4, .int u5, .int u6, .int u7, .int u8, .int u9, .int u10, .int u11, .int u12]))]) (va_A [(h0, .inr (4, [.ref h0_held, .int t_size, .ref h0_roots, .ref h0_survey])), (h0_held, .inl (k_t_held, 24, .inr (.inr (.inr (.inr t_held)))))] sz)) 1 12 (va_A [(h0, .inr (4, [.ref h0_held, .int t_size, .ref h0_roots, .ref h0_survey])), (h0_held, .inl (k_t_held, 24, .inr (.inr (.inr (.inr t_held)))))] sz) := by
  refine Met.ofW (cc := cX5_curve) (maxL := 4) (ret := (some .int)) (by decide) rfl ?_
  intro p e s m args below meth c s₁ B hml hv
  obtain ⟨rfl, hsz, hP, hK, hN, hD0⟩ := hv
  have hx := B.exec
  have hb := B.bytes
  have hr := B.returns
  have hts := atoms_spec (ws := wsX5_curve) B.pre
  have hown : s.vm.findClass RX5 = some m.cls := findClass_of_methodNamed B.named
  have hlocks := B.notSynchronized
  subst hsz
  have hD := hD0.self (sz := s.heap.size)
  generalize hAe : va_A [(h0, .inr (4, [.ref h0_held, .int t_size, .ref h0_roots, .ref h0_survey])), (h0_held, .inl (k_t_held, 24, .inr (.inr (.inr (.inr t_held)))))] s.heap.size = A at hD ⊢
  have hA0 : ∀ q : Nat, s.heap.size ≤ q → A q := fun q h => by rw [← hAe]; exact Or.inr h
  have hS : va_S A s.heap s.heap [] := va_S.rf
  have hP : va_P (dC, dI) vwCl [(h0, .inr (4, [.ref h0_held, .int t_size, .ref h0_roots, .ref h0_survey])), (h0_held, .inl (k_t_held, 24, .inr (.inr (.inr (.inr t_held)))))] s.heap := hP
  have hl := lv_entry ([.ref h0, .int a0, .int a1, .int a2]) (n := 4) (Nat.le_of_ble_eq_true rfl)
  rw [lg_entry_eq]
  generalize (lg_sl ([.ref h0, .int a0, .int a1, .int a2]) ++ List.replicate (4 - (lg_sl ([.ref h0, .int a0, .int a1, .int a2])).length) Slot.unset).toArray = ls at hl ⊢
  have hl : lv_has ls 4 [(0, .ref h0), (1, .int a0), (2, .int a1), (3, .int a2)] := hl
  dsimp only [mX5_curve] at h
  refine lv_iload_n hx hb dX5_curve_0 rfl (lv_at hl 1 rfl) ?_
  obtain ⟨r1, hr1, h⟩ := Option.bind_eq_some_iff.mp h
  refine vp_callSi (W.runS (As := [.int a0]) (rest := []) ⟨hx, hb, hml, hown, hts⟩ (ctX4_isFieldPrime l N  a0 r1 hr1) (va_cwS 1 hts gX5_curve_X4_isFieldPrime rfl rfl rfl (by decide +kernel) ⟨Nat.le_of_ble_eq_true rfl, Nat.le_of_ble_eq_true rfl⟩) preEq rfl rfl hl.1 rfl (lv_room (Nat.le_of_ble_eq_true rfl)) dX5_curve_1 ⟨Nat.le_of_ble_eq_true rfl, Nat.le_of_ble_eq_true rfl⟩) (fun q9 eq9 => ?_)
  subst eq9
  refine lv_if_eq (tgt := 23) hx hb dX5_curve_4 (by decide) (fun c2 => ?_) (fun c2 => ?_)
  · replace h := (if_pos c2).symm.trans h
    refine lv_bipush (v := (-2)) hx hb dX5_curve_23 (by decide) ?_
    exact absurd (Option.some.inj h) (fun hh => nomatch hh)
  · replace h := (if_neg c2).symm.trans h
    refine lv_iload_n hx hb dX5_curve_7 rfl (lv_at hl 2 rfl) ?_
    refine lv_iload_n hx hb dX5_curve_8 rfl (lv_at hl 1 rfl) ?_
    obtain ⟨r3, hr3, h⟩ := Option.bind_eq_some_iff.mp h
    refine vp_callSi (W.runS (As := [.int a1, .int a0]) (rest := []) ⟨hx, hb, hml, hown, hts⟩ (ctX4_isBelow l N  a1 a0 r3 hr3) (va_cwS 2 hts gX5_curve_X4_isBelow rfl rfl rfl (by decide +kernel) ⟨Nat.le_of_ble_eq_true rfl, Nat.le_of_ble_eq_true rfl⟩) preEq rfl rfl hl.1 rfl (lv_room (Nat.le_of_ble_eq_true rfl)) dX5_curve_9 ⟨Nat.le_of_ble_eq_true rfl, Nat.le_of_ble_eq_true rfl⟩) (fun q9 eq9 => ?_)
    subst eq9
    refine lv_if_eq (tgt := 23) hx hb dX5_curve_12 (by decide) (fun c4 => ?_) (fun c4 => ?_)
    · replace h := (if_pos c4).symm.trans h
      refine lv_bipush (v := (-2)) hx hb dX5_curve_23 (by decide) ?_
      exact absurd (Option.some.inj h) (fun hh => nomatch hh)
    · replace h := (if_neg c4).symm.trans h
      refine lv_iload_n hx hb dX5_curve_15 rfl (lv_at hl 3 rfl) ?_
      refine lv_iload_n hx hb dX5_curve_16 rfl (lv_at hl 1 rfl) ?_
      obtain ⟨r5, hr5, h⟩ := Option.bind_eq_some_iff.mp h
      refine vp_callSi (W.runS (As := [.int a2, .int a0]) (rest := []) ⟨hx, hb, hml, hown, hts⟩ (ctX4_isBelow l N  a2 a0 r5 hr5) (va_cwS 2 hts gX5_curve_X4_isBelow rfl rfl rfl (by decide +kernel) ⟨Nat.le_of_ble_eq_true rfl, Nat.le_of_ble_eq_true rfl⟩) preEq rfl rfl hl.1 rfl (lv_room (Nat.le_of_ble_eq_true rfl)) dX5_curve_17 ⟨Nat.le_of_ble_eq_true rfl, Nat.le_of_ble_eq_true rfl⟩) (fun q9 eq9 => ?_)
      subst eq9
      refine lv_if_ne (tgt := 26) hx hb dX5_curve_20 (by decide) (fun c6 => ?_) (fun c6 => ?_)
      · replace h := (if_neg c6).symm.trans h
        refine lv_iload_n hx hb dX5_curve_26 rfl (lv_at hl 2 rfl) ?_
        refine lv_iload_n hx hb dX5_curve_27 rfl (lv_at hl 3 rfl) ?_
        refine lv_iload_n hx hb dX5_curve_28 rfl (lv_at hl 1 rfl) ?_
        obtain ⟨r7, hr7, h⟩ := Option.bind_eq_some_iff.mp h
        refine vp_callSi (W.runS (As := [.int a1, .int a2, .int a0]) (rest := []) ⟨hx, hb, hml, hown, hts⟩ (ctX4_cubicMark l N  a1 a2 a0 r7 hr7) (va_cwS 3 hts gX5_curve_X4_cubicMark rfl rfl rfl (by decide +kernel) ⟨Nat.le_of_ble_eq_true rfl, Nat.le_of_ble_eq_true rfl⟩) preEq rfl rfl hl.1 rfl (lv_room (Nat.le_of_ble_eq_true rfl)) dX5_curve_29 ⟨Nat.le_of_ble_eq_true rfl, Nat.le_of_ble_eq_true rfl⟩) (fun q9 eq9 => ?_)
        subst eq9
        refine lv_if_ne (tgt := 38) hx hb dX5_curve_32 (by decide) (fun c8 => ?_) (fun c8 => ?_)
        · replace h := (if_neg c8).symm.trans h
          refine lv_aload_n hx hb dX5_curve_38 rfl (lv_at hl 0 rfl) ?_
          refine va_new (ci := 0) (fs := [.int 0, .int 0, .int 0, .int 0, .int 0, .int 0, .int 0, .int 0, .int 0, .int 0, .int 0, .int 0]) (C := RX0) (T := TX0) (N := 12) hx hb hts (by decide +kernel) tyX0 tyX0_ok hown (hts (.classLink RX5 9 RX0) (by decide +kernel)) (hts (.instantiable RX0 12) (by decide +kernel)) (hts (.initialized RX0) (by decide +kernel)) hK hP hD hS hA0 rfl (fun j hj => by rcases (show j = 0 ∨ j = 1 ∨ j = 2 ∨ j = 3 ∨ j = 4 ∨ j = 5 ∨ j = 6 ∨ j = 7 ∨ j = 8 ∨ j = 9 ∨ j = 10 ∨ j = 11 by omega) with rfl | rfl | rfl | rfl | rfl | rfl | rfl | rfl | rfl | rfl | rfl | rfl <;> rfl) (by decide +kernel) (by decide +kernel) dX5_curve_39 (fun q39 H hP hD hS => ?_)
          have hP : va_P (dC, dI) vwCl [(h0, .inr (4, [.ref h0_held, .int t_size, .ref h0_roots, .ref h0_survey])), (h0_held, .inl (k_t_held, 24, .inr (.inr (.inr (.inr t_held))))), (q39, .inr (0, [.int 0, .int 0, .int 0, .int 0, .int 0, .int 0, .int 0, .int 0, .int 0, .int 0, .int 0, .int 0]))] H := hP
          have hD : va_D A [(h0, .inr (4, [.ref h0_held, .int t_size, .ref h0_roots, .ref h0_survey])), (h0_held, .inl (k_t_held, 24, .inr (.inr (.inr (.inr t_held))))), (q39, .inr (0, [.int 0, .int 0, .int 0, .int 0, .int 0, .int 0, .int 0, .int 0, .int 0, .int 0, .int 0, .int 0]))] := hD
          refine lv_dup hx hb dX5_curve_42 rfl ?_
          refine lv_iload_n hx hb dX5_curve_43 rfl (lv_at hl 1 rfl) ?_
          refine lv_iload_n hx hb dX5_curve_44 rfl (lv_at hl 2 rfl) ?_
          refine lv_iload_n hx hb dX5_curve_45 rfl (lv_at hl 3 rfl) ?_
          obtain ⟨r9, hr9, h⟩ := Option.bind_eq_some_iff.mp h
          have hPc := hP.sub (ws' := [(q39, .inr (0, [.int 0, .int 0, .int 0, .int 0, .int 0, .int 0, .int 0, .int 0, .int 0, .int 0, .int 0, .int 0]))]) [2] rfl
          have hDc := hD.sub (ws' := [(q39, .inr (0, [.int 0, .int 0, .int 0, .int 0, .int 0, .int 0, .int 0, .int 0, .int 0, .int 0, .int 0, .int 0]))]) [2] (by decide) rfl
          have hKc := hK.sub (tys' := []) [] rfl
          have hFc := va_free (wc := [(q39, .inr (0, [.int 0, .int 0, .int 0, .int 0, .int 0, .int 0, .int 0, .int 0, .int 0, .int 0, .int 0, .int 0]))]) hD hS hA0 [2] rfl
          refine va_callv (va_runI (As := [.int a0, .int a1, .int a2]) (rest := [.ref q39, .ref h0]) ⟨hx, hb, hml, hown, hts⟩ (ctX0_init l N dC dI _ q39 0 0 0 0 0 0 0 0 0 0 0 0 a0 a1 a2 r9 hr9) (cwI 3 hts gX5_curve_X0_init rfl rfl rfl (hts (.initialized RX0) (by decide +kernel)) (hts (.methodLink RX5 49 yX0_init) (by decide +kernel)) (hts (.instanceMethod yX0_init) (by decide +kernel)) rfl (by decide +kernel) ⟨Nat.le_of_ble_eq_true rfl, Nat.le_of_ble_eq_true rfl⟩) ⟨fun a U g mk q => by obtain ⟨q0, q1, qP, qK, qN, qD⟩ := q; exact ⟨q0, q1, qP, va_K.moved (u := U) (U := U.calling g mk a) (Vm.Alike.refl U.vm) qK, nw_same (u := U) (U := U.calling g mk a) rfl qN, qD⟩, fun U hU hW => ⟨rfl, by rw [hU], by rw [hU]; exact hPc, va_K.moved hW.alike hKc, nw_warm hW hN, hDc.weaken (fun _ _ _ _ => trivial)⟩⟩ rfl rfl hl.1 rfl (lv_room (Nat.le_of_ble_eq_true rfl)) dX5_curve_46 ⟨Nat.le_of_ble_eq_true rfl, Nat.le_of_ble_eq_true rfl⟩) hS (fun q _ h => hFc q h) hFc (fun u t H1 locs ht hvm hw hB1 hz1 hk1 hS => ?_)
          obtain ⟨u10, u11, u12, u13, u14⟩ := u
          obtain ⟨hP1, hK1, hD1⟩ := hB1
          rw [ht] at hP1
          have hK1 := va_K.moved hvm.symm hK1
          subst hw
          dsimp only at h
          obtain ⟨hP, hD⟩ := va_join (wr := [(h0, .inr (4, [.ref h0_held, .int t_size, .ref h0_roots, .ref h0_survey])), (h0_held, .inl (k_t_held, 24, .inr (.inr (.inr (.inr t_held)))))]) (w1 := [(q39, .inr (0, [.int u10, .int u11, .int u12, .int 0, .int 0, .int 0, .int 0, .int 0, .int 0, .int 0, .int u13, .int u14]))]) hP hD [2] [0, 1] rfl rfl (by decide) (by decide) hk1 hFc hP1 hD1
          generalize H1 = H at hP hS ⊢
          have hP := hP.sub (ws' := [(h0, .inr (4, [.ref h0_held, .int t_size, .ref h0_roots, .ref h0_survey])), (h0_held, .inl (k_t_held, 24, .inr (.inr (.inr (.inr t_held))))), (q39, .inr (0, [.int u10, .int u11, .int u12, .int 0, .int 0, .int 0, .int 0, .int 0, .int 0, .int 0, .int u13, .int u14]))]) [0, 1, 2] rfl
          have hD := hD.sub (ws' := [(h0, .inr (4, [.ref h0_held, .int t_size, .ref h0_roots, .ref h0_survey])), (h0_held, .inl (k_t_held, 24, .inr (.inr (.inr (.inr t_held))))), (q39, .inr (0, [.int u10, .int u11, .int u12, .int 0, .int 0, .int 0, .int 0, .int 0, .int 0, .int 0, .int u13, .int u14]))]) [0, 1, 2] (by decide) rfl
          by_cases c15 : t_size < 24
          · replace h := (if_pos c15).symm.trans h
            obtain ⟨r16, hr16, h⟩ := Option.bind_eq_some_iff.mp h
            have hPc := hP.sub (ws' := [(h0, .inr (4, [.ref h0_held, .int t_size, .ref h0_roots, .ref h0_survey])), (h0_held, .inl (k_t_held, 24, .inr (.inr (.inr (.inr t_held))))), (q39, .inr (0, [.int u10, .int u11, .int u12, .int 0, .int 0, .int 0, .int 0, .int 0, .int 0, .int 0, .int u13, .int u14]))]) [0, 1, 2] rfl
            have hDc := hD.sub (ws' := [(h0, .inr (4, [.ref h0_held, .int t_size, .ref h0_roots, .ref h0_survey])), (h0_held, .inl (k_t_held, 24, .inr (.inr (.inr (.inr t_held))))), (q39, .inr (0, [.int u10, .int u11, .int u12, .int 0, .int 0, .int 0, .int 0, .int 0, .int 0, .int 0, .int u13, .int u14]))]) [0, 1, 2] (by decide) rfl
            have hKc := hK.sub (tys' := [(k_t_held, .object "PointRings$Curve")]) [0] rfl
            have hFc := va_free (wc := [(h0, .inr (4, [.ref h0_held, .int t_size, .ref h0_roots, .ref h0_survey])), (h0_held, .inl (k_t_held, 24, .inr (.inr (.inr (.inr t_held))))), (q39, .inr (0, [.int u10, .int u11, .int u12, .int 0, .int 0, .int 0, .int 0, .int 0, .int 0, .int 0, .int u13, .int u14]))]) hD hS hA0 [0, 1, 2] rfl
            refine va_calli (va_runV (As := [.ref q39]) (rest := []) ⟨hx, hb, hml, hown, hts⟩ (ctX5_keep_k l N dC dI _ h0 h0_held q39 h0_roots h0_survey k_t_held t_size t_held u10 u11 u12 0 0 0 0 0 0 0 u13 u14 r16 hr16 c15) (cwV 1 hts gX5_curve_X5_keep rfl rfl rfl (by decide +kernel) ⟨Nat.le_of_ble_eq_true rfl, Nat.le_of_ble_eq_true rfl⟩) ⟨fun a U g mk q => by obtain ⟨q0, q1, qP, qK, qN, qD⟩ := q; exact ⟨q0, q1, qP, va_K.moved (u := U) (U := U.calling g mk a) (Vm.Alike.refl U.vm) qK, nw_same (u := U) (U := U.calling g mk a) rfl qN, qD⟩, va_recv hKc hPc (ci := 4) (q0 := 0) rfl rfl, fun U hU hW => ⟨rfl, by rw [hU], by rw [hU]; exact hPc, va_K.moved hW.alike hKc, nw_warm hW hN, hDc.weaken (fun _ _ _ _ => trivial)⟩⟩ rfl rfl hl.1 rfl (lv_room (Nat.le_of_ble_eq_true rfl)) dX5_curve_49 ⟨Nat.le_of_ble_eq_true rfl, Nat.le_of_ble_eq_true rfl⟩) hS (fun q _ h => hFc q h) hFc (fun rz u t H1 locs ht hvm hw hB1 hz1 hk1 hS => ?_)
            obtain ⟨u17, rfl⟩ : ∃ z, z = u := ⟨_, rfl⟩
            obtain ⟨hP1, hK1, hD1⟩ := hB1
            rw [ht] at hP1
            have hK1 := va_K.moved hvm.symm hK1
            obtain ⟨r18, rfl⟩ : ∃ z, z = rz := ⟨_, rfl⟩
            subst hw
            dsimp only at h
            obtain ⟨hP, hD⟩ := va_join (wr := []) (w1 := [(h0, .inr (4, [.ref h0_held, .int u17, .ref h0_roots, .ref h0_survey])), (h0_held, .inl (k_t_held, 24, .inr (.inr (.inr (.inr (va_up t_held t_size.toNatClampNeg (some q39))))))), (q39, .inr (0, [.int u10, .int u11, .int u12, .int 0, .int 0, .int 0, .int 0, .int 0, .int 0, .int 0, .int u13, .int u14]))]) hP hD [0, 1, 2] [] rfl rfl (by decide) (by decide) hk1 hFc hP1 hD1
            generalize H1 = H at hP hS ⊢
            have hP := hP.sub (ws' := [(h0, .inr (4, [.ref h0_held, .int u17, .ref h0_roots, .ref h0_survey])), (h0_held, .inl (k_t_held, 24, .inr (.inr (.inr (.inr (va_up t_held t_size.toNatClampNeg (some q39))))))), (q39, .inr (0, [.int u10, .int u11, .int u12, .int 0, .int 0, .int 0, .int 0, .int 0, .int 0, .int 0, .int u13, .int u14]))]) [0, 1, 2] rfl
            have hD := hD.sub (ws' := [(h0, .inr (4, [.ref h0_held, .int u17, .ref h0_roots, .ref h0_survey])), (h0_held, .inl (k_t_held, 24, .inr (.inr (.inr (.inr (va_up t_held t_size.toNatClampNeg (some q39))))))), (q39, .inr (0, [.int u10, .int u11, .int u12, .int 0, .int 0, .int 0, .int 0, .int 0, .int 0, .int 0, .int u13, .int u14]))]) [0, 1, 2] (by decide) rfl
            have hv : (r18, u17, u10, u11, u12, 0, 0, 0, 0, 0, 0, 0, u13, u14) = rr := Sum.inr.inj (Option.some.inj h)
            have hP9 := hP.sub (ws' := [(h0, .inr (4, [.ref h0_held, .int u17, .ref h0_roots, .ref h0_survey])), (h0_held, .inl (k_t_held, 24, .inr (.inr (.inr (.inr (va_up t_held t_size.toNatClampNeg (some q39))))))), (q39, .inr (0, [.int u10, .int u11, .int u12, .int 0, .int 0, .int 0, .int 0, .int 0, .int 0, .int 0, .int u13, .int u14]))]) [0, 1, 2] rfl
            have hD9 := hD.sub (ws' := [(h0, .inr (4, [.ref h0_held, .int u17, .ref h0_roots, .ref h0_survey])), (h0_held, .inl (k_t_held, 24, .inr (.inr (.inr (.inr (va_up t_held t_size.toNatClampNeg (some q39))))))), (q39, .inr (0, [.int u10, .int u11, .int u12, .int 0, .int 0, .int 0, .int 0, .int 0, .int 0, .int 0, .int u13, .int u14]))]) [0, 1, 2] (by decide) rfl
            have hK9 := hK.sub (tys' := [(k_t_held, .object "PointRings$Curve")]) [0] rfl
            refine W.widen (k := 1) (n := 12) (by decide +kernel) (by decide +kernel) ?_
            exact W.iret (v := r18) hx hb hr (fun t ht hW => ⟨⟨r18, (u17, u10, u11, u12, 0, 0, 0, 0, 0, 0, 0, u13, u14), rfl, hv, q39, by rw [ht]; exact hP9, va_K.moved hW.alike hK9, hD9⟩, hS.F ht⟩) hS.2.2 dX5_curve_52
          · replace h := (if_neg c15).symm.trans h
            have hPc := hP.sub (ws' := [(h0, .inr (4, [.ref h0_held, .int t_size, .ref h0_roots, .ref h0_survey])), (h0_held, .inl (k_t_held, 24, .inr (.inr (.inr (.inr t_held)))))]) [0, 1] rfl
            have hKc := hK.sub (tys' := [(k_t_held, .object "PointRings$Curve")]) [0] rfl
            refine vp_callSi (W.runV (As := [.ref q39]) (rest := []) ⟨hx, hb, hml, hown, hts⟩ (ctX5_keep_f l N dC dI  h0 h0_held h0_roots h0_survey q39 k_t_held t_size t_held (-4) rfl c15) (cwV 1 hts gX5_curve_X5_keep rfl rfl rfl (by decide +kernel) ⟨Nat.le_of_ble_eq_true rfl, Nat.le_of_ble_eq_true rfl⟩) ⟨fun a U g mk q => by obtain ⟨q0, qP, qK, qN⟩ := q; exact ⟨q0, qP, va_K.moved (u := U) (U := U.calling g mk a) (Vm.Alike.refl U.vm) qK, nw_same (u := U) (U := U.calling g mk a) rfl qN⟩, va_recv hKc hPc (ci := 4) (q0 := 0) rfl rfl, fun U hU hW => ⟨rfl, by rw [hU]; exact hPc, va_K.moved hW.alike hKc, nw_warm hW hN⟩⟩ rfl rfl hl.1 rfl (lv_room (Nat.le_of_ble_eq_true rfl)) dX5_curve_49 ⟨Nat.le_of_ble_eq_true rfl, Nat.le_of_ble_eq_true rfl⟩) (fun q9 eq9 => ?_)
            subst eq9
            exact absurd (Option.some.inj h) (fun hh => nomatch hh)
        · replace h := (if_pos c8).symm.trans h
          refine lv_bipush (v := (-3)) hx hb dX5_curve_35 (by decide) ?_
          exact absurd (Option.some.inj h) (fun hh => nomatch hh)
      · replace h := (if_pos c6).symm.trans h
        refine lv_bipush (v := (-2)) hx hb dX5_curve_23 (by decide) ?_
        exact absurd (Option.some.inj h) (fun hh => nomatch hh)
end
section
def mX5_at (N : Nat) (t_size : Int32) (t_held : Nat → Option Nat) (a0 : Int32) : Option (Option Nat) := if a0 < 0 then some none else if t_size ≤ a0 then some none else if 24 ≤ a0 then some none else if a0 < 0 ∨ 24 ≤ a0.toNatClampNeg then none else some (t_held a0.toNatClampNeg)
abbrev rmX5_at : Room := { frames := 0, cells := 0, slots := 0, locals := 0 }
set_option maxHeartbeats 4000000 in
set_option maxRecDepth 100000 in
theorem ctX5_at (l : Launch) (N : Nat) (dC : Nat → ClassId) (dI : Nat → Nat → Nat) (h0 : Nat) (h0_held : Nat) (h0_roots : Nat) (h0_survey : Nat) (k_t_held : ClassId) (t_size : Int32) (t_held : Nat → Option Nat) (a0 : Int32) (rr : Option Nat) (h : mX5_at N t_size t_held a0 = some rr) : Met l yX5_at wsX5_at rmX5_at (va_Pc [.ref h0, .int a0] (fun U => va_P (dC, dI) vwCl [(h0, .inr (4, [.ref h0_held, .int t_size, .ref h0_roots, .ref h0_survey])), (h0_held, .inl (k_t_held, 24, .inr (.inr (.inr (.inr t_held)))))] U.heap ∧ va_K (dC, dI) vwCl [(k_t_held, .object "PointRings$Curve")] U ∧ nw_all U)) (va_Sq (fun r => r = rr)) 0 0 (fun _ => False) := by
  refine Met.ofW (cc := cX5_at) (maxL := 2) (ret := (some (.object "PointRings$Curve"))) (by decide) rfl ?_
  intro p e s m args below meth c s₁ B hml hv
  obtain ⟨rfl, hP, hK, hN⟩ := hv
  have hx := B.exec
  have hb := B.bytes
  have hr := B.returns
  have hts := atoms_spec (ws := wsX5_at) B.pre
  have hown : s.vm.findClass RX5 = some m.cls := findClass_of_methodNamed B.named
  have hlocks := B.notSynchronized
  have hl := lv_entry ([.ref h0, .int a0]) (n := 2) (Nat.le_of_ble_eq_true rfl)
  rw [lg_entry_eq]
  generalize (lg_sl ([.ref h0, .int a0]) ++ List.replicate (2 - (lg_sl ([.ref h0, .int a0])).length) Slot.unset).toArray = ls at hl ⊢
  have hl : lv_has ls 2 [(0, .ref h0), (1, .int a0)] := hl
  dsimp only [mX5_at] at h
  refine lv_iload_n hx hb dX5_at_0 rfl (lv_at hl 1 rfl) ?_
  refine lv_if_lt (tgt := 30) hx hb dX5_at_1 (by decide) (fun c1 => ?_) (fun c1 => ?_)
  · replace h := (if_pos c1).symm.trans h
    refine lv_null hx hb dX5_at_30 ?_
    have hv : none = rr := Option.some.inj h
    exact W.aret (v := .null) hx hb hr (Or.inl ⟨_, rfl⟩) (Or.inl rfl) (fun t ht hW => ⟨none, rfl, hv, ht⟩) (fun q hq => absurd hq List.not_mem_nil) dX5_at_31
  · replace h := (if_neg c1).symm.trans h
    refine lv_iload_n hx hb dX5_at_4 rfl (lv_at hl 1 rfl) ?_
    refine lv_aload_n hx hb dX5_at_5 rfl (lv_at hl 0 rfl) ?_
    refine va_get (D := (dC, dI)) (ci := 4) (v := .int t_size) (C := RX5) (T := TX5) (N := 4) hx hb hts (by decide +kernel) hown hK hP 0 rfl rfl 1 (by decide) (hts (.fieldLink RX5 15 "PointRings" "size" "I") (by decide +kernel)) (fun _ h9 => h9) rfl dX5_at_6 ?_
    refine lv_icmp_ge (tgt := 30) hx hb dX5_at_9 (by decide) (fun c2 => ?_) (fun c2 => ?_)
    · replace h := (if_pos c2).symm.trans h
      refine lv_null hx hb dX5_at_30 ?_
      have hv : none = rr := Option.some.inj h
      exact W.aret (v := .null) hx hb hr (Or.inl ⟨_, rfl⟩) (Or.inl rfl) (fun t ht hW => ⟨none, rfl, hv, ht⟩) (fun q hq => absurd hq List.not_mem_nil) dX5_at_31
    · replace h := (if_neg c2).symm.trans h
      refine lv_iload_n hx hb dX5_at_12 rfl (lv_at hl 1 rfl) ?_
      refine lv_aload_n hx hb dX5_at_13 rfl (lv_at hl 0 rfl) ?_
      refine va_get (D := (dC, dI)) (ci := 4) (v := .ref h0_held) (C := RX5) (T := TX5) (N := 4) hx hb hts (by decide +kernel) hown hK hP 0 rfl rfl 0 (by decide) (hts (.fieldLink RX5 11 "PointRings" "held" "[LPointRings$Curve;") (by decide +kernel)) (fun _ h9 => h9) rfl dX5_at_14 ?_
      refine va_alen (v := 24) hx hb hK hP 1 0 rfl rfl rfl dX5_at_17 ?_
      refine lv_icmp_ge (tgt := 30) hx hb dX5_at_18 (by decide) (fun c3 => ?_) (fun c3 => ?_)
      · replace h := (if_pos c3).symm.trans h
        refine lv_null hx hb dX5_at_30 ?_
        have hv : none = rr := Option.some.inj h
        exact W.aret (v := .null) hx hb hr (Or.inl ⟨_, rfl⟩) (Or.inl rfl) (fun t ht hW => ⟨none, rfl, hv, ht⟩) (fun q hq => absurd hq List.not_mem_nil) dX5_at_31
      · replace h := (if_neg c3).symm.trans h
        refine lv_aload_n hx hb dX5_at_21 rfl (lv_at hl 0 rfl) ?_
        refine va_get (D := (dC, dI)) (ci := 4) (v := .ref h0_held) (C := RX5) (T := TX5) (N := 4) hx hb hts (by decide +kernel) hown hK hP 0 rfl rfl 0 (by decide) (hts (.fieldLink RX5 11 "PointRings" "held" "[LPointRings$Curve;") (by decide +kernel)) (fun _ h9 => h9) rfl dX5_at_22 ?_
        refine lv_iload_n hx hb dX5_at_25 rfl (lv_at hl 1 rfl) ?_
        have hi4 : ¬ (a0 < 0 ∨ 24 ≤ a0.toNatClampNeg) := fun hz => absurd ((if_pos hz).symm.trans h) (fun hh => nomatch hh)
        replace h := (if_neg hi4).symm.trans h
        refine va_aldq hx hb hK hP 1 0 rfl rfl hi4 dX5_at_26 ?_
        refine lv_goto (tgt := 31) hx hb dX5_at_27 (by decide) ?_
        have hv : t_held a0.toNatClampNeg = rr := Option.some.inj h
        exact W.aret (v := (va_rf (t_held a0.toNatClampNeg))) hx hb hr (Or.inl ⟨_, rfl⟩) (va_rf_or _) (fun t ht hW => ⟨t_held a0.toNatClampNeg, rfl, hv, ht⟩) (fun q hq => absurd hq List.not_mem_nil) dX5_at_31
end
section
def mX1_lay_b22 (N : Nat) (a0 : Int32) (st : Int32 × (Nat → Int32)) : Option ((Int32 × (Nat → Int32)) ⊕ (Int32 × (Nat → Int32))) :=
  match st with
  | (x3, x4) => if a0 ≤ x3 then some (.inr (x3, x4)) else if x3 < 0 ∨ 10007 ≤ x3.toNatClampNeg then none else mi_let (upd x4 x3.toNatClampNeg (-1)) (fun f9 => mi_let (x3 + 1) (fun v10 => some (.inl (v10, f9))))
def mX1_lay_b44 (N : Nat) (a0 : Int32) (st : Int32 × (Nat → Int32)) : Option ((Int32 × (Nat → Int32)) ⊕ (Int32 × (Nat → Int32))) :=
  match st with
  | (x13, x14) => if x13 < 0 then some (.inr (x13, x14)) else if a0 = 0 then none else mi_let (mi_rem (x13 * x13) a0) (fun v19 => if v19 < 0 ∨ 10007 ≤ v19.toNatClampNeg then none else mi_let (upd x14 v19.toNatClampNeg x13) (fun f21 => mi_let (x13 + (-1)) (fun v22 => some (.inl (v22, f21)))))
def mX1_lay (N : Nat) (t_prime : Int32) (t_least : Nat → Int32) (a0 : Int32) : Option (Int32 × (Nat → Int32)) := if a0 < 5 then some (t_prime, t_least) else if a0 ≤ 10007 then (mi_run (mX1_lay_b22 N a0) N (0, t_least)).bind (fun o11 => match o11 with | (y5, y6) => mi_let (a0 / 2) (fun v12 => (mi_run (mX1_lay_b44 N a0) N (v12, y6)).bind (fun o23 => match o23 with | (y15, y16) => some (a0, y16)))) else some (t_prime, t_least)
abbrev rmX1_lay : Room := { frames := 0, cells := 0, slots := 0, locals := 0 }
set_option maxHeartbeats 4000000 in
set_option maxRecDepth 100000 in
theorem ctX1_lay (l : Launch) (N : Nat) (dC : Nat → ClassId) (dI : Nat → Nat → Nat) (sz : Nat) (h0 : Nat) (h0_least : Nat) (k_t_least : ClassId) (t_prime : Int32) (t_least : Nat → Int32) (a0 : Int32) (rr : Int32 × (Nat → Int32)) (h : mX1_lay N t_prime t_least a0 = some rr) : Met l yX1_lay wsX1_lay rmX1_lay (va_Pc [.ref h0, .int a0] (fun U => U.heap.size = sz ∧ va_P (dC, dI) vwCl [(h0, .inr (1, [.ref h0_least, .int t_prime])), (h0_least, .inl (k_t_least, 10007, .inl t_least))] U.heap ∧ va_K (dC, dI) vwCl [(k_t_least, .int)] U ∧ nw_all U ∧ va_D (fun _ => True) [(h0, .inr (1, [.ref h0_least, .int t_prime])), (h0_least, .inl (k_t_least, 10007, .inl t_least))])) (va_Qv (fun (u : Int32 × (Nat → Int32)) => u = rr) (fun (u : Int32 × (Nat → Int32)) t => match u with | (u0, u1) => va_P (dC, dI) vwCl [(h0, .inr (1, [.ref h0_least, .int u0])), (h0_least, .inl (k_t_least, 10007, .inl u1))] t.heap ∧ va_K (dC, dI) vwCl [(k_t_least, .int)] t ∧ va_D (va_A [(h0, .inr (1, [.ref h0_least, .int t_prime])), (h0_least, .inl (k_t_least, 10007, .inl t_least))] sz) [(h0, .inr (1, [.ref h0_least, .int u0])), (h0_least, .inl (k_t_least, 10007, .inl u1))]) (va_A [(h0, .inr (1, [.ref h0_least, .int t_prime])), (h0_least, .inl (k_t_least, 10007, .inl t_least))] sz)) 0 0 (va_A [(h0, .inr (1, [.ref h0_least, .int t_prime])), (h0_least, .inl (k_t_least, 10007, .inl t_least))] sz) := by
  refine Met.ofW (cc := cX1_lay) (maxL := 3) (ret := none) (by decide) rfl ?_
  intro p e s m args below meth c s₁ B hml hv
  obtain ⟨rfl, hsz, hP, hK, hN, hD0⟩ := hv
  have hx := B.exec
  have hb := B.bytes
  have hr := B.returns
  have hts := atoms_spec (ws := wsX1_lay) B.pre
  have hown : s.vm.findClass RX1 = some m.cls := findClass_of_methodNamed B.named
  have hlocks := B.notSynchronized
  subst hsz
  have hD := hD0.self (sz := s.heap.size)
  generalize hAe : va_A [(h0, .inr (1, [.ref h0_least, .int t_prime])), (h0_least, .inl (k_t_least, 10007, .inl t_least))] s.heap.size = A at hD ⊢
  have hA0 : ∀ q : Nat, s.heap.size ≤ q → A q := fun q h => by rw [← hAe]; exact Or.inr h
  have hS : va_S A s.heap s.heap [] := va_S.rf
  have hP : va_P (dC, dI) vwCl [(h0, .inr (1, [.ref h0_least, .int t_prime])), (h0_least, .inl (k_t_least, 10007, .inl t_least))] s.heap := hP
  have hl := lv_entry ([.ref h0, .int a0]) (n := 3) (Nat.le_of_ble_eq_true rfl)
  rw [lg_entry_eq]
  generalize (lg_sl ([.ref h0, .int a0]) ++ List.replicate (3 - (lg_sl ([.ref h0, .int a0])).length) Slot.unset).toArray = ls at hl ⊢
  have hl : lv_has ls 3 [(0, .ref h0), (1, .int a0)] := hl
  dsimp only [mX1_lay] at h
  refine lv_iload_n hx hb dX1_lay_0 rfl (lv_at hl 1 rfl) ?_
  refine lv_iconst (v := 5) hx hb dX1_lay_1 (by decide) ?_
  refine lv_icmp_lt (tgt := 14) hx hb dX1_lay_2 (by decide) (fun c1 => ?_) (fun c1 => ?_)
  · replace h := (if_pos c1).symm.trans h
    have hv : (t_prime, t_least) = rr := Option.some.inj h
    have hP9 := hP.sub (ws' := [(h0, .inr (1, [.ref h0_least, .int t_prime])), (h0_least, .inl (k_t_least, 10007, .inl t_least))]) [0, 1] rfl
    have hD9 := hD.sub (ws' := [(h0, .inr (1, [.ref h0_least, .int t_prime])), (h0_least, .inl (k_t_least, 10007, .inl t_least))]) [0, 1] (by decide) rfl
    have hK9 := hK.sub (tys' := [(k_t_least, .int)]) [0] rfl
    exact W.vret hx hb hr (fun t ht hW => ⟨⟨(t_prime, t_least), rfl, hv, by rw [ht]; exact hP9, va_K.moved hW.alike hK9, hD9⟩, hS.F ht⟩) hS.2.2 dX1_lay_14
  · replace h := (if_neg c1).symm.trans h
    refine lv_iload_n hx hb dX1_lay_5 rfl (lv_at hl 1 rfl) ?_
    refine lv_aload_n hx hb dX1_lay_6 rfl (lv_at hl 0 rfl) ?_
    refine va_get (D := (dC, dI)) (ci := 1) (v := .ref h0_least) (C := RX1) (T := TX1) (N := 2) hx hb hts (by decide +kernel) hown hK hP 0 rfl rfl 0 (by decide) (hts (.fieldLink RX1 9 "PointRings$Roots" "least" "[I") (by decide +kernel)) (fun _ h9 => h9) rfl dX1_lay_7 ?_
    refine va_alen (v := 10007) hx hb hK hP 1 0 rfl rfl rfl dX1_lay_10 ?_
    refine lv_icmp_le (tgt := 15) hx hb dX1_lay_11 (by decide) (fun c2 => ?_) (fun c2 => ?_)
    · replace h := (if_pos c2).symm.trans h
      refine lv_aload_n hx hb dX1_lay_15 rfl (lv_at hl 0 rfl) ?_
      refine lv_iload_n hx hb dX1_lay_16 rfl (lv_at hl 1 rfl) ?_
      refine va_put (D := (dC, dI)) (ci := 1) (v := .int a0) (ty := .int) (C := RX1) (T := TX1) (N := 2) hx hb hts (by decide +kernel) tyX1 tyX1_ok nmX1 hown hK hP hD hS 0 rfl rfl 1 (by decide) (hts (.fieldLink RX1 15 "PointRings$Roots" "prime" "I") (by decide +kernel)) (fun _ h9 => h9) rfl (by decide +kernel) rfl rfl (Nat.le_of_ble_eq_true rfl) dX1_lay_17 (fun H locs hP hD hS => ?_)
      have hP : va_P (dC, dI) vwCl [(h0, .inr (1, [.ref h0_least, .int a0])), (h0_least, .inl (k_t_least, 10007, .inl t_least))] H := hP
      have hD : va_D A [(h0, .inr (1, [.ref h0_least, .int a0])), (h0_least, .inl (k_t_least, 10007, .inl t_least))] := hD
      refine lv_iconst (v := 0) hx hb dX1_lay_20 (by decide) ?_
      refine lv_istore_n (lv' := [(2, .int 0), (0, .ref h0), (1, .int a0)]) hx hb dX1_lay_21 rfl hl (by decide) rfl (fun ls hl => ?_)
      have L22 : ∀ (n : Nat) (x3 : Int32) (x4 : Nat → Int32) (o : Int32 × (Nat → Int32)), mi_run (mX1_lay_b22 N a0) n (x3, x4) = some o → (∀ (y5 : Int32) (y6 : Nat → Int32), o = (y5, y6) → ∀ (H : Heap) (locs : List Loc) (ls : Array Slot), va_P (dC, dI) vwCl [(h0, .inr (1, [.ref h0_least, .int a0])), (h0_least, .inl (k_t_least, 10007, .inl y6))] H → va_D A [(h0, .inr (1, [.ref h0_least, .int a0])), (h0_least, .inl (k_t_least, 10007, .inl y6))] → va_S A s.heap H locs → lv_has ls 3 [(2, .int y5), (0, .ref h0), (1, .int a0)] → W p l e (headSpec wsX1_lay rmX1_lay).room s m (([.ref h0, .int a0] : List Value).toArray) below meth c H locs 0 0 (MQ below (va_Qv (fun (u : Int32 × (Nat → Int32)) => u = rr) (fun (u : Int32 × (Nat → Int32)) t => match u with | (u0, u1) => va_P (dC, dI) vwCl [(h0, .inr (1, [.ref h0_least, .int u0])), (h0_least, .inl (k_t_least, 10007, .inl u1))] t.heap ∧ va_K (dC, dI) vwCl [(k_t_least, .int)] t ∧ va_D (A) [(h0, .inr (1, [.ref h0_least, .int u0])), (h0_least, .inl (k_t_least, 10007, .inl u1))]) (A)) (([.ref h0, .int a0] : List Value).toArray) s 0 0 A) (F0 m 40 ls [])) → ∀ (H : Heap) (locs : List Loc) (ls : Array Slot), va_P (dC, dI) vwCl [(h0, .inr (1, [.ref h0_least, .int a0])), (h0_least, .inl (k_t_least, 10007, .inl x4))] H → va_D A [(h0, .inr (1, [.ref h0_least, .int a0])), (h0_least, .inl (k_t_least, 10007, .inl x4))] → va_S A s.heap H locs → lv_has ls 3 [(2, .int x3), (0, .ref h0), (1, .int a0)] → W p l e (headSpec wsX1_lay rmX1_lay).room s m (([.ref h0, .int a0] : List Value).toArray) below meth c H locs 0 0 (MQ below (va_Qv (fun (u : Int32 × (Nat → Int32)) => u = rr) (fun (u : Int32 × (Nat → Int32)) t => match u with | (u0, u1) => va_P (dC, dI) vwCl [(h0, .inr (1, [.ref h0_least, .int u0])), (h0_least, .inl (k_t_least, 10007, .inl u1))] t.heap ∧ va_K (dC, dI) vwCl [(k_t_least, .int)] t ∧ va_D (A) [(h0, .inr (1, [.ref h0_least, .int u0])), (h0_least, .inl (k_t_least, 10007, .inl u1))]) (A)) (([.ref h0, .int a0] : List Value).toArray) s 0 0 A) (F0 m 22 ls []) := by
        intro n
        induction n with
        | zero => intro x3 x4 o h; exact absurd h (mi_run_0 _ _ _)
        | succ n ih =>
          intro x3 x4 o h hkE H locs ls hP hD hS hl
          obtain ⟨w, h, hA, hB⟩ := mi_run_s h
          dsimp only [mX1_lay_b22] at h
          refine lv_iload_n hx hb dX1_lay_22 rfl (lv_at hl 0 rfl) ?_
          refine lv_iload_n hx hb dX1_lay_23 rfl (lv_at hl 2 rfl) ?_
          refine lv_icmp_ge (tgt := 40) hx hb dX1_lay_24 (by decide) (fun c7 => ?_) (fun c7 => ?_)
          · replace h := (if_pos c7).symm.trans h
            exact hkE _ _ (hB _ (Option.some.inj h).symm) _ _ ls hP hD hS (lv_sub hl [0, 1, 2] rfl)
          · replace h := (if_neg c7).symm.trans h
            refine lv_aload_n hx hb dX1_lay_27 rfl (lv_at hl 1 rfl) ?_
            refine va_get (D := (dC, dI)) (ci := 1) (v := .ref h0_least) (C := RX1) (T := TX1) (N := 2) hx hb hts (by decide +kernel) hown hK hP 0 rfl rfl 0 (by decide) (hts (.fieldLink RX1 9 "PointRings$Roots" "least" "[I") (by decide +kernel)) (fun _ h9 => h9) rfl dX1_lay_28 ?_
            refine lv_iload_n hx hb dX1_lay_31 rfl (lv_at hl 0 rfl) ?_
            refine lv_iconst (v := (-1)) hx hb dX1_lay_32 (by decide) ?_
            have hi8 : ¬ (x3 < 0 ∨ 10007 ≤ x3.toNatClampNeg) := fun hz => absurd ((if_pos hz).symm.trans h) (fun hh => nomatch hh)
            replace h := (if_neg hi8).symm.trans h
            refine va_iast hx hb hK hP hD hS 1 0 rfl rfl hi8 dX1_lay_33 (fun H locs hP hD hS => ?_)
            have hP : va_P (dC, dI) vwCl [(h0, .inr (1, [.ref h0_least, .int a0])), (h0_least, .inl (k_t_least, 10007, .inl (upd x4 x3.toNatClampNeg (-1))))] H := hP
            have hD : va_D A [(h0, .inr (1, [.ref h0_least, .int a0])), (h0_least, .inl (k_t_least, 10007, .inl (upd x4 x3.toNatClampNeg (-1))))] := hD
            obtain ⟨f9, ef9⟩ : ∃ z : Nat → Int32, z = upd x4 x3.toNatClampNeg (-1) := ⟨_, rfl⟩
            rw [← ef9] at hP hD
            replace h := mi_use ef9 h
            obtain ⟨v10, ev10⟩ : ∃ z : Int32, z = x3 + 1 := ⟨_, rfl⟩
            refine lv_iinc (v := v10) (lv' := [(2, .int v10), (0, .ref h0), (1, .int a0)]) hx hb dX1_lay_34 hl (k := 0) rfl (by rw [ev10]; rfl) (by decide) rfl (fun ls hl => ?_)
            replace h := mi_use ev10 h
            refine lv_goto (tgt := 22) hx hb dX1_lay_37 (by decide) ?_
            exact ih _ _ _ (hA _ (Option.some.inj h).symm) hkE _ _ ls hP hD hS (lv_sub hl [0, 1, 2] rfl)
      obtain ⟨o11, ho11, h⟩ := Option.bind_eq_some_iff.mp h
      refine L22 N _ _ o11 ho11 ?_ _ _ ls hP hD hS (lv_sub hl [0, 1, 2] rfl)
      intro y5 y6 eo H locs ls hP hD hS hl
      subst eo
      dsimp only at h
      refine lv_iload_n hx hb dX1_lay_40 rfl (lv_at hl 2 rfl) ?_
      refine lv_iconst (v := 2) hx hb dX1_lay_41 (by decide) ?_
      refine lv_idiv hx hb dX1_lay_42 (by decide) ?_
      refine lv_topi (fun v12 ev12 => ?_)
      replace h := mi_use ev12 h
      refine lv_istore_n (lv' := [(2, .int v12), (0, .ref h0), (1, .int a0)]) hx hb dX1_lay_43 rfl hl (by decide) rfl (fun ls hl => ?_)
      have L44 : ∀ (n : Nat) (x13 : Int32) (x14 : Nat → Int32) (o : Int32 × (Nat → Int32)), mi_run (mX1_lay_b44 N a0) n (x13, x14) = some o → (∀ (y15 : Int32) (y16 : Nat → Int32), o = (y15, y16) → ∀ (H : Heap) (locs : List Loc) (ls : Array Slot), va_P (dC, dI) vwCl [(h0, .inr (1, [.ref h0_least, .int a0])), (h0_least, .inl (k_t_least, 10007, .inl y16))] H → va_D A [(h0, .inr (1, [.ref h0_least, .int a0])), (h0_least, .inl (k_t_least, 10007, .inl y16))] → va_S A s.heap H locs → lv_has ls 3 [(2, .int y15), (0, .ref h0), (1, .int a0)] → W p l e (headSpec wsX1_lay rmX1_lay).room s m (([.ref h0, .int a0] : List Value).toArray) below meth c H locs 0 0 (MQ below (va_Qv (fun (u : Int32 × (Nat → Int32)) => u = rr) (fun (u : Int32 × (Nat → Int32)) t => match u with | (u0, u1) => va_P (dC, dI) vwCl [(h0, .inr (1, [.ref h0_least, .int u0])), (h0_least, .inl (k_t_least, 10007, .inl u1))] t.heap ∧ va_K (dC, dI) vwCl [(k_t_least, .int)] t ∧ va_D (A) [(h0, .inr (1, [.ref h0_least, .int u0])), (h0_least, .inl (k_t_least, 10007, .inl u1))]) (A)) (([.ref h0, .int a0] : List Value).toArray) s 0 0 A) (F0 m 65 ls [])) → ∀ (H : Heap) (locs : List Loc) (ls : Array Slot), va_P (dC, dI) vwCl [(h0, .inr (1, [.ref h0_least, .int a0])), (h0_least, .inl (k_t_least, 10007, .inl x14))] H → va_D A [(h0, .inr (1, [.ref h0_least, .int a0])), (h0_least, .inl (k_t_least, 10007, .inl x14))] → va_S A s.heap H locs → lv_has ls 3 [(2, .int x13), (0, .ref h0), (1, .int a0)] → W p l e (headSpec wsX1_lay rmX1_lay).room s m (([.ref h0, .int a0] : List Value).toArray) below meth c H locs 0 0 (MQ below (va_Qv (fun (u : Int32 × (Nat → Int32)) => u = rr) (fun (u : Int32 × (Nat → Int32)) t => match u with | (u0, u1) => va_P (dC, dI) vwCl [(h0, .inr (1, [.ref h0_least, .int u0])), (h0_least, .inl (k_t_least, 10007, .inl u1))] t.heap ∧ va_K (dC, dI) vwCl [(k_t_least, .int)] t ∧ va_D (A) [(h0, .inr (1, [.ref h0_least, .int u0])), (h0_least, .inl (k_t_least, 10007, .inl u1))]) (A)) (([.ref h0, .int a0] : List Value).toArray) s 0 0 A) (F0 m 44 ls []) := by
        intro n
        induction n with
        | zero => intro x13 x14 o h; exact absurd h (mi_run_0 _ _ _)
        | succ n ih =>
          intro x13 x14 o h hkE H locs ls hP hD hS hl
          obtain ⟨w, h, hA, hB⟩ := mi_run_s h
          dsimp only [mX1_lay_b44] at h
          refine lv_iload_n hx hb dX1_lay_44 rfl (lv_at hl 0 rfl) ?_
          refine lv_if_lt (tgt := 65) hx hb dX1_lay_45 (by decide) (fun c17 => ?_) (fun c17 => ?_)
          · replace h := (if_pos c17).symm.trans h
            exact hkE _ _ (hB _ (Option.some.inj h).symm) _ _ ls hP hD hS (lv_sub hl [0, 1, 2] rfl)
          · replace h := (if_neg c17).symm.trans h
            refine lv_aload_n hx hb dX1_lay_48 rfl (lv_at hl 1 rfl) ?_
            refine va_get (D := (dC, dI)) (ci := 1) (v := .ref h0_least) (C := RX1) (T := TX1) (N := 2) hx hb hts (by decide +kernel) hown hK hP 0 rfl rfl 0 (by decide) (hts (.fieldLink RX1 9 "PointRings$Roots" "least" "[I") (by decide +kernel)) (fun _ h9 => h9) rfl dX1_lay_49 ?_
            refine lv_iload_n hx hb dX1_lay_52 rfl (lv_at hl 0 rfl) ?_
            refine lv_iload_n hx hb dX1_lay_53 rfl (lv_at hl 0 rfl) ?_
            refine lv_imul hx hb dX1_lay_54 ?_
            refine lv_iload_n hx hb dX1_lay_55 rfl (lv_at hl 2 rfl) ?_
            have hn18 : ¬ a0 = 0 := fun hz => absurd ((if_pos hz).symm.trans h) (fun hh => nomatch hh)
            replace h := (if_neg hn18).symm.trans h
            refine lv_irem hx hb dX1_lay_56 hn18 ?_
            refine lv_topi (fun v19 ev19 => ?_)
            replace h := mi_use ev19 h
            refine lv_iload_n hx hb dX1_lay_57 rfl (lv_at hl 0 rfl) ?_
            have hi20 : ¬ (v19 < 0 ∨ 10007 ≤ v19.toNatClampNeg) := fun hz => absurd ((if_pos hz).symm.trans h) (fun hh => nomatch hh)
            replace h := (if_neg hi20).symm.trans h
            refine va_iast hx hb hK hP hD hS 1 0 rfl rfl hi20 dX1_lay_58 (fun H locs hP hD hS => ?_)
            have hP : va_P (dC, dI) vwCl [(h0, .inr (1, [.ref h0_least, .int a0])), (h0_least, .inl (k_t_least, 10007, .inl (upd x14 v19.toNatClampNeg x13)))] H := hP
            have hD : va_D A [(h0, .inr (1, [.ref h0_least, .int a0])), (h0_least, .inl (k_t_least, 10007, .inl (upd x14 v19.toNatClampNeg x13)))] := hD
            obtain ⟨f21, ef21⟩ : ∃ z : Nat → Int32, z = upd x14 v19.toNatClampNeg x13 := ⟨_, rfl⟩
            rw [← ef21] at hP hD
            replace h := mi_use ef21 h
            obtain ⟨v22, ev22⟩ : ∃ z : Int32, z = x13 + (-1) := ⟨_, rfl⟩
            refine lv_iinc (v := v22) (lv' := [(2, .int v22), (0, .ref h0), (1, .int a0)]) hx hb dX1_lay_59 hl (k := 0) rfl (by rw [ev22]; rfl) (by decide) rfl (fun ls hl => ?_)
            replace h := mi_use ev22 h
            refine lv_goto (tgt := 44) hx hb dX1_lay_62 (by decide) ?_
            exact ih _ _ _ (hA _ (Option.some.inj h).symm) hkE _ _ ls hP hD hS (lv_sub hl [0, 1, 2] rfl)
      obtain ⟨o23, ho23, h⟩ := Option.bind_eq_some_iff.mp h
      refine L44 N _ _ o23 ho23 ?_ _ _ ls hP hD hS (lv_sub hl [0, 1, 2] rfl)
      intro y15 y16 eo H locs ls hP hD hS hl
      subst eo
      dsimp only at h
      have hv : (a0, y16) = rr := Option.some.inj h
      have hP9 := hP.sub (ws' := [(h0, .inr (1, [.ref h0_least, .int a0])), (h0_least, .inl (k_t_least, 10007, .inl y16))]) [0, 1] rfl
      have hD9 := hD.sub (ws' := [(h0, .inr (1, [.ref h0_least, .int a0])), (h0_least, .inl (k_t_least, 10007, .inl y16))]) [0, 1] (by decide) rfl
      have hK9 := hK.sub (tys' := [(k_t_least, .int)]) [0] rfl
      exact W.vret hx hb hr (fun t ht hW => ⟨⟨(a0, y16), rfl, hv, by rw [ht]; exact hP9, va_K.moved hW.alike hK9, hD9⟩, hS.F ht⟩) hS.2.2 dX1_lay_65
    · replace h := (if_neg c2).symm.trans h
      have hv : (t_prime, t_least) = rr := Option.some.inj h
      have hP9 := hP.sub (ws' := [(h0, .inr (1, [.ref h0_least, .int t_prime])), (h0_least, .inl (k_t_least, 10007, .inl t_least))]) [0, 1] rfl
      have hD9 := hD.sub (ws' := [(h0, .inr (1, [.ref h0_least, .int t_prime])), (h0_least, .inl (k_t_least, 10007, .inl t_least))]) [0, 1] (by decide) rfl
      have hK9 := hK.sub (tys' := [(k_t_least, .int)]) [0] rfl
      exact W.vret hx hb hr (fun t ht hW => ⟨⟨(t_prime, t_least), rfl, hv, by rw [ht]; exact hP9, va_K.moved hW.alike hK9, hD9⟩, hS.F ht⟩) hS.2.2 dX1_lay_14
end
section
def mX1_leastRoot (N : Nat) (t_prime : Int32) (t_least : Nat → Int32) (a0 : Int32) (a1 : Int32) : Option (Int32 × Int32 × (Nat → Int32)) := if a1 = t_prime then if a0 < 0 then some ((-1), t_prime, t_least) else if t_prime ≤ a0 then some ((-1), t_prime, t_least) else if a0 < 0 ∨ 10007 ≤ a0.toNatClampNeg then none else mi_let (t_least a0.toNatClampNeg) (fun v5 => some (v5, t_prime, t_least)) else (mX1_lay N t_prime t_least a1).bind (fun r6 => match r6 with | (u7, f8) => if a0 < 0 then some ((-1), u7, f8) else if u7 ≤ a0 then some ((-1), u7, f8) else if a0 < 0 ∨ 10007 ≤ a0.toNatClampNeg then none else mi_let (f8 a0.toNatClampNeg) (fun v12 => some (v12, u7, f8)))
abbrev rmX1_leastRoot : Room := { frames := 1, cells := 0, slots := 0, locals := 22 }
set_option maxHeartbeats 4000000 in
set_option maxRecDepth 100000 in
theorem ctX1_leastRoot (l : Launch) (N : Nat) (dC : Nat → ClassId) (dI : Nat → Nat → Nat) (sz : Nat) (h0 : Nat) (h0_least : Nat) (k_t_least : ClassId) (t_prime : Int32) (t_least : Nat → Int32) (a0 : Int32) (a1 : Int32) (rr : Int32 × Int32 × (Nat → Int32)) (h : mX1_leastRoot N t_prime t_least a0 a1 = some rr) : Met l yX1_leastRoot wsX1_leastRoot rmX1_leastRoot (va_Pc [.ref h0, .int a0, .int a1] (fun U => U.heap.size = sz ∧ va_P (dC, dI) vwCl [(h0, .inr (1, [.ref h0_least, .int t_prime])), (h0_least, .inl (k_t_least, 10007, .inl t_least))] U.heap ∧ va_K (dC, dI) vwCl [(k_t_least, .int)] U ∧ nw_all U ∧ va_D (fun _ => True) [(h0, .inr (1, [.ref h0_least, .int t_prime])), (h0_least, .inl (k_t_least, 10007, .inl t_least))])) (va_Qi (fun (r : Int32) (u : Int32 × (Nat → Int32)) => (r, u) = rr) (fun (u : Int32 × (Nat → Int32)) t => match u with | (u0, u1) => va_P (dC, dI) vwCl [(h0, .inr (1, [.ref h0_least, .int u0])), (h0_least, .inl (k_t_least, 10007, .inl u1))] t.heap ∧ va_K (dC, dI) vwCl [(k_t_least, .int)] t ∧ va_D (va_A [(h0, .inr (1, [.ref h0_least, .int t_prime])), (h0_least, .inl (k_t_least, 10007, .inl t_least))] sz) [(h0, .inr (1, [.ref h0_least, .int u0])), (h0_least, .inl (k_t_least, 10007, .inl u1))]) (va_A [(h0, .inr (1, [.ref h0_least, .int t_prime])), (h0_least, .inl (k_t_least, 10007, .inl t_least))] sz)) 0 0 (va_A [(h0, .inr (1, [.ref h0_least, .int t_prime])), (h0_least, .inl (k_t_least, 10007, .inl t_least))] sz) := by
  refine Met.ofW (cc := cX1_leastRoot) (maxL := 3) (ret := (some .int)) (by decide) rfl ?_
  intro p e s m args below meth c s₁ B hml hv
  obtain ⟨rfl, hsz, hP, hK, hN, hD0⟩ := hv
  have hx := B.exec
  have hb := B.bytes
  have hr := B.returns
  have hts := atoms_spec (ws := wsX1_leastRoot) B.pre
  have hown : s.vm.findClass RX1 = some m.cls := findClass_of_methodNamed B.named
  have hlocks := B.notSynchronized
  subst hsz
  have hD := hD0.self (sz := s.heap.size)
  generalize hAe : va_A [(h0, .inr (1, [.ref h0_least, .int t_prime])), (h0_least, .inl (k_t_least, 10007, .inl t_least))] s.heap.size = A at hD ⊢
  have hA0 : ∀ q : Nat, s.heap.size ≤ q → A q := fun q h => by rw [← hAe]; exact Or.inr h
  have hS : va_S A s.heap s.heap [] := va_S.rf
  have hP : va_P (dC, dI) vwCl [(h0, .inr (1, [.ref h0_least, .int t_prime])), (h0_least, .inl (k_t_least, 10007, .inl t_least))] s.heap := hP
  have hl := lv_entry ([.ref h0, .int a0, .int a1]) (n := 3) (Nat.le_of_ble_eq_true rfl)
  rw [lg_entry_eq]
  generalize (lg_sl ([.ref h0, .int a0, .int a1]) ++ List.replicate (3 - (lg_sl ([.ref h0, .int a0, .int a1])).length) Slot.unset).toArray = ls at hl ⊢
  have hl : lv_has ls 3 [(0, .ref h0), (1, .int a0), (2, .int a1)] := hl
  dsimp only [mX1_leastRoot] at h
  refine lv_iload_n hx hb dX1_leastRoot_0 rfl (lv_at hl 2 rfl) ?_
  refine lv_aload_n hx hb dX1_leastRoot_1 rfl (lv_at hl 0 rfl) ?_
  refine va_get (D := (dC, dI)) (ci := 1) (v := .int t_prime) (C := RX1) (T := TX1) (N := 2) hx hb hts (by decide +kernel) hown hK hP 0 rfl rfl 1 (by decide) (hts (.fieldLink RX1 15 "PointRings$Roots" "prime" "I") (by decide +kernel)) (fun _ h9 => h9) rfl dX1_leastRoot_2 ?_
  refine lv_icmp_eq (tgt := 13) hx hb dX1_leastRoot_5 (by decide) (fun c1 => ?_) (fun c1 => ?_)
  · replace h := (if_pos c1).symm.trans h
    refine lv_iload_n hx hb dX1_leastRoot_13 rfl (lv_at hl 1 rfl) ?_
    refine lv_if_lt (tgt := 34) hx hb dX1_leastRoot_14 (by decide) (fun c2 => ?_) (fun c2 => ?_)
    · replace h := (if_pos c2).symm.trans h
      refine lv_iconst (v := (-1)) hx hb dX1_leastRoot_34 (by decide) ?_
      have hv : ((-1), t_prime, t_least) = rr := Option.some.inj h
      have hP9 := hP.sub (ws' := [(h0, .inr (1, [.ref h0_least, .int t_prime])), (h0_least, .inl (k_t_least, 10007, .inl t_least))]) [0, 1] rfl
      have hD9 := hD.sub (ws' := [(h0, .inr (1, [.ref h0_least, .int t_prime])), (h0_least, .inl (k_t_least, 10007, .inl t_least))]) [0, 1] (by decide) rfl
      have hK9 := hK.sub (tys' := [(k_t_least, .int)]) [0] rfl
      exact W.iret (v := (-1)) hx hb hr (fun t ht hW => ⟨⟨(-1), (t_prime, t_least), rfl, hv, by rw [ht]; exact hP9, va_K.moved hW.alike hK9, hD9⟩, hS.F ht⟩) hS.2.2 dX1_leastRoot_35
    · replace h := (if_neg c2).symm.trans h
      refine lv_iload_n hx hb dX1_leastRoot_17 rfl (lv_at hl 1 rfl) ?_
      refine lv_aload_n hx hb dX1_leastRoot_18 rfl (lv_at hl 0 rfl) ?_
      refine va_get (D := (dC, dI)) (ci := 1) (v := .int t_prime) (C := RX1) (T := TX1) (N := 2) hx hb hts (by decide +kernel) hown hK hP 0 rfl rfl 1 (by decide) (hts (.fieldLink RX1 15 "PointRings$Roots" "prime" "I") (by decide +kernel)) (fun _ h9 => h9) rfl dX1_leastRoot_19 ?_
      refine lv_icmp_ge (tgt := 34) hx hb dX1_leastRoot_22 (by decide) (fun c3 => ?_) (fun c3 => ?_)
      · replace h := (if_pos c3).symm.trans h
        refine lv_iconst (v := (-1)) hx hb dX1_leastRoot_34 (by decide) ?_
        have hv : ((-1), t_prime, t_least) = rr := Option.some.inj h
        have hP9 := hP.sub (ws' := [(h0, .inr (1, [.ref h0_least, .int t_prime])), (h0_least, .inl (k_t_least, 10007, .inl t_least))]) [0, 1] rfl
        have hD9 := hD.sub (ws' := [(h0, .inr (1, [.ref h0_least, .int t_prime])), (h0_least, .inl (k_t_least, 10007, .inl t_least))]) [0, 1] (by decide) rfl
        have hK9 := hK.sub (tys' := [(k_t_least, .int)]) [0] rfl
        exact W.iret (v := (-1)) hx hb hr (fun t ht hW => ⟨⟨(-1), (t_prime, t_least), rfl, hv, by rw [ht]; exact hP9, va_K.moved hW.alike hK9, hD9⟩, hS.F ht⟩) hS.2.2 dX1_leastRoot_35
      · replace h := (if_neg c3).symm.trans h
        refine lv_aload_n hx hb dX1_leastRoot_25 rfl (lv_at hl 0 rfl) ?_
        refine va_get (D := (dC, dI)) (ci := 1) (v := .ref h0_least) (C := RX1) (T := TX1) (N := 2) hx hb hts (by decide +kernel) hown hK hP 0 rfl rfl 0 (by decide) (hts (.fieldLink RX1 9 "PointRings$Roots" "least" "[I") (by decide +kernel)) (fun _ h9 => h9) rfl dX1_leastRoot_26 ?_
        refine lv_iload_n hx hb dX1_leastRoot_29 rfl (lv_at hl 1 rfl) ?_
        have hi4 : ¬ (a0 < 0 ∨ 10007 ≤ a0.toNatClampNeg) := fun hz => absurd ((if_pos hz).symm.trans h) (fun hh => nomatch hh)
        replace h := (if_neg hi4).symm.trans h
        refine va_iald hx hb hK hP 1 0 rfl rfl hi4 dX1_leastRoot_30 ?_
        refine lv_topi (fun v5 ev5 => ?_)
        replace h := mi_use ev5 h
        refine lv_goto (tgt := 35) hx hb dX1_leastRoot_31 (by decide) ?_
        have hv : (v5, t_prime, t_least) = rr := Option.some.inj h
        have hP9 := hP.sub (ws' := [(h0, .inr (1, [.ref h0_least, .int t_prime])), (h0_least, .inl (k_t_least, 10007, .inl t_least))]) [0, 1] rfl
        have hD9 := hD.sub (ws' := [(h0, .inr (1, [.ref h0_least, .int t_prime])), (h0_least, .inl (k_t_least, 10007, .inl t_least))]) [0, 1] (by decide) rfl
        have hK9 := hK.sub (tys' := [(k_t_least, .int)]) [0] rfl
        exact W.iret (v := v5) hx hb hr (fun t ht hW => ⟨⟨v5, (t_prime, t_least), rfl, hv, by rw [ht]; exact hP9, va_K.moved hW.alike hK9, hD9⟩, hS.F ht⟩) hS.2.2 dX1_leastRoot_35
  · replace h := (if_neg c1).symm.trans h
    refine lv_aload_n hx hb dX1_leastRoot_8 rfl (lv_at hl 0 rfl) ?_
    refine lv_iload_n hx hb dX1_leastRoot_9 rfl (lv_at hl 2 rfl) ?_
    obtain ⟨r6, hr6, h⟩ := Option.bind_eq_some_iff.mp h
    have hPc := hP.sub (ws' := [(h0, .inr (1, [.ref h0_least, .int t_prime])), (h0_least, .inl (k_t_least, 10007, .inl t_least))]) [0, 1] rfl
    have hDc := hD.sub (ws' := [(h0, .inr (1, [.ref h0_least, .int t_prime])), (h0_least, .inl (k_t_least, 10007, .inl t_least))]) [0, 1] (by decide) rfl
    have hKc := hK.sub (tys' := [(k_t_least, .int)]) [0] rfl
    have hFc := va_free (wc := [(h0, .inr (1, [.ref h0_least, .int t_prime])), (h0_least, .inl (k_t_least, 10007, .inl t_least))]) hD hS hA0 [0, 1] rfl
    refine va_callv (va_runV (As := [.int a1]) (rest := []) ⟨hx, hb, hml, hown, hts⟩ (ctX1_lay l N dC dI _ h0 h0_least k_t_least t_prime t_least a1 r6 hr6) (cwV 1 hts gX1_leastRoot_X1_lay rfl rfl rfl (by decide +kernel) ⟨Nat.le_of_ble_eq_true rfl, Nat.le_of_ble_eq_true rfl⟩) ⟨fun a U g mk q => by obtain ⟨q0, q1, qP, qK, qN, qD⟩ := q; exact ⟨q0, q1, qP, va_K.moved (u := U) (U := U.calling g mk a) (Vm.Alike.refl U.vm) qK, nw_same (u := U) (U := U.calling g mk a) rfl qN, qD⟩, va_recv hKc hPc (ci := 1) (q0 := 0) rfl rfl, fun U hU hW => ⟨rfl, by rw [hU], by rw [hU]; exact hPc, va_K.moved hW.alike hKc, nw_warm hW hN, hDc.weaken (fun _ _ _ _ => trivial)⟩⟩ rfl rfl hl.1 rfl (lv_room (Nat.le_of_ble_eq_true rfl)) dX1_leastRoot_10 ⟨Nat.le_of_ble_eq_true rfl, Nat.le_of_ble_eq_true rfl⟩) hS (fun q _ h => hFc q h) hFc (fun u t H1 locs ht hvm hw hB1 hz1 hk1 hS => ?_)
    obtain ⟨u7, f8⟩ := u
    obtain ⟨hP1, hK1, hD1⟩ := hB1
    rw [ht] at hP1
    have hK1 := va_K.moved hvm.symm hK1
    subst hw
    dsimp only at h
    obtain ⟨hP, hD⟩ := va_join (wr := []) (w1 := [(h0, .inr (1, [.ref h0_least, .int u7])), (h0_least, .inl (k_t_least, 10007, .inl f8))]) hP hD [0, 1] [] rfl rfl (by decide) (by decide) hk1 hFc hP1 hD1
    generalize H1 = H at hP hS ⊢
    have hP := hP.sub (ws' := [(h0, .inr (1, [.ref h0_least, .int u7])), (h0_least, .inl (k_t_least, 10007, .inl f8))]) [0, 1] rfl
    have hD := hD.sub (ws' := [(h0, .inr (1, [.ref h0_least, .int u7])), (h0_least, .inl (k_t_least, 10007, .inl f8))]) [0, 1] (by decide) rfl
    refine lv_iload_n hx hb dX1_leastRoot_13 rfl (lv_at hl 1 rfl) ?_
    refine lv_if_lt (tgt := 34) hx hb dX1_leastRoot_14 (by decide) (fun c9 => ?_) (fun c9 => ?_)
    · replace h := (if_pos c9).symm.trans h
      refine lv_iconst (v := (-1)) hx hb dX1_leastRoot_34 (by decide) ?_
      have hv : ((-1), u7, f8) = rr := Option.some.inj h
      have hP9 := hP.sub (ws' := [(h0, .inr (1, [.ref h0_least, .int u7])), (h0_least, .inl (k_t_least, 10007, .inl f8))]) [0, 1] rfl
      have hD9 := hD.sub (ws' := [(h0, .inr (1, [.ref h0_least, .int u7])), (h0_least, .inl (k_t_least, 10007, .inl f8))]) [0, 1] (by decide) rfl
      have hK9 := hK.sub (tys' := [(k_t_least, .int)]) [0] rfl
      exact W.iret (v := (-1)) hx hb hr (fun t ht hW => ⟨⟨(-1), (u7, f8), rfl, hv, by rw [ht]; exact hP9, va_K.moved hW.alike hK9, hD9⟩, hS.F ht⟩) hS.2.2 dX1_leastRoot_35
    · replace h := (if_neg c9).symm.trans h
      refine lv_iload_n hx hb dX1_leastRoot_17 rfl (lv_at hl 1 rfl) ?_
      refine lv_aload_n hx hb dX1_leastRoot_18 rfl (lv_at hl 0 rfl) ?_
      refine va_get (D := (dC, dI)) (ci := 1) (v := .int u7) (C := RX1) (T := TX1) (N := 2) hx hb hts (by decide +kernel) hown hK hP 0 rfl rfl 1 (by decide) (hts (.fieldLink RX1 15 "PointRings$Roots" "prime" "I") (by decide +kernel)) (fun _ h9 => h9) rfl dX1_leastRoot_19 ?_
      refine lv_icmp_ge (tgt := 34) hx hb dX1_leastRoot_22 (by decide) (fun c10 => ?_) (fun c10 => ?_)
      · replace h := (if_pos c10).symm.trans h
        refine lv_iconst (v := (-1)) hx hb dX1_leastRoot_34 (by decide) ?_
        have hv : ((-1), u7, f8) = rr := Option.some.inj h
        have hP9 := hP.sub (ws' := [(h0, .inr (1, [.ref h0_least, .int u7])), (h0_least, .inl (k_t_least, 10007, .inl f8))]) [0, 1] rfl
        have hD9 := hD.sub (ws' := [(h0, .inr (1, [.ref h0_least, .int u7])), (h0_least, .inl (k_t_least, 10007, .inl f8))]) [0, 1] (by decide) rfl
        have hK9 := hK.sub (tys' := [(k_t_least, .int)]) [0] rfl
        exact W.iret (v := (-1)) hx hb hr (fun t ht hW => ⟨⟨(-1), (u7, f8), rfl, hv, by rw [ht]; exact hP9, va_K.moved hW.alike hK9, hD9⟩, hS.F ht⟩) hS.2.2 dX1_leastRoot_35
      · replace h := (if_neg c10).symm.trans h
        refine lv_aload_n hx hb dX1_leastRoot_25 rfl (lv_at hl 0 rfl) ?_
        refine va_get (D := (dC, dI)) (ci := 1) (v := .ref h0_least) (C := RX1) (T := TX1) (N := 2) hx hb hts (by decide +kernel) hown hK hP 0 rfl rfl 0 (by decide) (hts (.fieldLink RX1 9 "PointRings$Roots" "least" "[I") (by decide +kernel)) (fun _ h9 => h9) rfl dX1_leastRoot_26 ?_
        refine lv_iload_n hx hb dX1_leastRoot_29 rfl (lv_at hl 1 rfl) ?_
        have hi11 : ¬ (a0 < 0 ∨ 10007 ≤ a0.toNatClampNeg) := fun hz => absurd ((if_pos hz).symm.trans h) (fun hh => nomatch hh)
        replace h := (if_neg hi11).symm.trans h
        refine va_iald hx hb hK hP 1 0 rfl rfl hi11 dX1_leastRoot_30 ?_
        refine lv_topi (fun v12 ev12 => ?_)
        replace h := mi_use ev12 h
        refine lv_goto (tgt := 35) hx hb dX1_leastRoot_31 (by decide) ?_
        have hv : (v12, u7, f8) = rr := Option.some.inj h
        have hP9 := hP.sub (ws' := [(h0, .inr (1, [.ref h0_least, .int u7])), (h0_least, .inl (k_t_least, 10007, .inl f8))]) [0, 1] rfl
        have hD9 := hD.sub (ws' := [(h0, .inr (1, [.ref h0_least, .int u7])), (h0_least, .inl (k_t_least, 10007, .inl f8))]) [0, 1] (by decide) rfl
        have hK9 := hK.sub (tys' := [(k_t_least, .int)]) [0] rfl
        exact W.iret (v := v12) hx hb hr (fun t ht hW => ⟨⟨v12, (u7, f8), rfl, hv, by rw [ht]; exact hP9, va_K.moved hW.alike hK9, hD9⟩, hS.F ht⟩) hS.2.2 dX1_leastRoot_35
end
section
def mX3_manyAt (N : Nat) (t_roots_prime : Int32) (t_roots_least : Nat → Int32) (a0 : Int32) (a1 : Int32) : Option (Int32 × Int32 × (Nat → Int32)) := if a0 = 0 then some (1, t_roots_prime, t_roots_least) else (mX1_leastRoot N t_roots_prime t_roots_least a0 a1).bind (fun r2 => match r2 with | (r5, u3, f4) => if r5 ≤ 0 then some (0, u3, f4) else some (2, u3, f4))
abbrev rmX3_manyAt : Room := { frames := 2, cells := 0, slots := 0, locals := 44 }
set_option maxHeartbeats 4000000 in
set_option maxRecDepth 100000 in
theorem ctX3_manyAt (l : Launch) (N : Nat) (dC : Nat → ClassId) (dI : Nat → Nat → Nat) (sz : Nat) (h0 : Nat) (h0_roots : Nat) (h0_roots_least : Nat) (h0_strides : Nat) (h0_halvesFound : Nat) (k_t_roots_least : ClassId) (t_roots_prime : Int32) (t_roots_least : Nat → Int32) (a0 : Int32) (a1 : Int32) (rr : Int32 × Int32 × (Nat → Int32)) (h : mX3_manyAt N t_roots_prime t_roots_least a0 a1 = some rr) : Met l yX3_manyAt wsX3_manyAt rmX3_manyAt (va_Pc [.ref h0, .int a0, .int a1] (fun U => U.heap.size = sz ∧ va_P (dC, dI) vwCl [(h0, .inr (3, [.ref h0_roots, .ref h0_strides, .ref h0_halvesFound])), (h0_roots, .inr (1, [.ref h0_roots_least, .int t_roots_prime])), (h0_roots_least, .inl (k_t_roots_least, 10007, .inl t_roots_least))] U.heap ∧ va_K (dC, dI) vwCl [(k_t_roots_least, .int)] U ∧ nw_all U ∧ va_D (fun _ => True) [(h0, .inr (3, [.ref h0_roots, .ref h0_strides, .ref h0_halvesFound])), (h0_roots, .inr (1, [.ref h0_roots_least, .int t_roots_prime])), (h0_roots_least, .inl (k_t_roots_least, 10007, .inl t_roots_least))])) (va_Qi (fun (r : Int32) (u : Int32 × (Nat → Int32)) => (r, u) = rr) (fun (u : Int32 × (Nat → Int32)) t => match u with | (u0, u1) => va_P (dC, dI) vwCl [(h0, .inr (3, [.ref h0_roots, .ref h0_strides, .ref h0_halvesFound])), (h0_roots, .inr (1, [.ref h0_roots_least, .int u0])), (h0_roots_least, .inl (k_t_roots_least, 10007, .inl u1))] t.heap ∧ va_K (dC, dI) vwCl [(k_t_roots_least, .int)] t ∧ va_D (va_A [(h0, .inr (3, [.ref h0_roots, .ref h0_strides, .ref h0_halvesFound])), (h0_roots, .inr (1, [.ref h0_roots_least, .int t_roots_prime])), (h0_roots_least, .inl (k_t_roots_least, 10007, .inl t_roots_least))] sz) [(h0, .inr (3, [.ref h0_roots, .ref h0_strides, .ref h0_halvesFound])), (h0_roots, .inr (1, [.ref h0_roots_least, .int u0])), (h0_roots_least, .inl (k_t_roots_least, 10007, .inl u1))]) (va_A [(h0, .inr (3, [.ref h0_roots, .ref h0_strides, .ref h0_halvesFound])), (h0_roots, .inr (1, [.ref h0_roots_least, .int t_roots_prime])), (h0_roots_least, .inl (k_t_roots_least, 10007, .inl t_roots_least))] sz)) 0 0 (va_A [(h0, .inr (3, [.ref h0_roots, .ref h0_strides, .ref h0_halvesFound])), (h0_roots, .inr (1, [.ref h0_roots_least, .int t_roots_prime])), (h0_roots_least, .inl (k_t_roots_least, 10007, .inl t_roots_least))] sz) := by
  refine Met.ofW (cc := cX3_manyAt) (maxL := 3) (ret := (some .int)) (by decide) rfl ?_
  intro p e s m args below meth c s₁ B hml hv
  obtain ⟨rfl, hsz, hP, hK, hN, hD0⟩ := hv
  have hx := B.exec
  have hb := B.bytes
  have hr := B.returns
  have hts := atoms_spec (ws := wsX3_manyAt) B.pre
  have hown : s.vm.findClass RX3 = some m.cls := findClass_of_methodNamed B.named
  have hlocks := B.notSynchronized
  subst hsz
  have hD := hD0.self (sz := s.heap.size)
  generalize hAe : va_A [(h0, .inr (3, [.ref h0_roots, .ref h0_strides, .ref h0_halvesFound])), (h0_roots, .inr (1, [.ref h0_roots_least, .int t_roots_prime])), (h0_roots_least, .inl (k_t_roots_least, 10007, .inl t_roots_least))] s.heap.size = A at hD ⊢
  have hA0 : ∀ q : Nat, s.heap.size ≤ q → A q := fun q h => by rw [← hAe]; exact Or.inr h
  have hS : va_S A s.heap s.heap [] := va_S.rf
  have hP : va_P (dC, dI) vwCl [(h0, .inr (3, [.ref h0_roots, .ref h0_strides, .ref h0_halvesFound])), (h0_roots, .inr (1, [.ref h0_roots_least, .int t_roots_prime])), (h0_roots_least, .inl (k_t_roots_least, 10007, .inl t_roots_least))] s.heap := hP
  have hl := lv_entry ([.ref h0, .int a0, .int a1]) (n := 3) (Nat.le_of_ble_eq_true rfl)
  rw [lg_entry_eq]
  generalize (lg_sl ([.ref h0, .int a0, .int a1]) ++ List.replicate (3 - (lg_sl ([.ref h0, .int a0, .int a1])).length) Slot.unset).toArray = ls at hl ⊢
  have hl : lv_has ls 3 [(0, .ref h0), (1, .int a0), (2, .int a1)] := hl
  dsimp only [mX3_manyAt] at h
  refine lv_iload_n hx hb dX3_manyAt_0 rfl (lv_at hl 1 rfl) ?_
  refine lv_if_ne (tgt := 6) hx hb dX3_manyAt_1 (by decide) (fun c1 => ?_) (fun c1 => ?_)
  · replace h := (if_neg c1).symm.trans h
    refine lv_aload_n hx hb dX3_manyAt_6 rfl (lv_at hl 0 rfl) ?_
    refine va_get (D := (dC, dI)) (ci := 3) (v := .ref h0_roots) (C := RX3) (T := TX3) (N := 3) hx hb hts (by decide +kernel) hown hK hP 0 rfl rfl 0 (by decide) (hts (.fieldLink RX3 9 "PointRings$Survey" "roots" "LPointRings$Roots;") (by decide +kernel)) (fun _ h9 => h9) rfl dX3_manyAt_7 ?_
    refine lv_iload_n hx hb dX3_manyAt_10 rfl (lv_at hl 1 rfl) ?_
    refine lv_iload_n hx hb dX3_manyAt_11 rfl (lv_at hl 2 rfl) ?_
    obtain ⟨r2, hr2, h⟩ := Option.bind_eq_some_iff.mp h
    have hPc := hP.sub (ws' := [(h0_roots, .inr (1, [.ref h0_roots_least, .int t_roots_prime])), (h0_roots_least, .inl (k_t_roots_least, 10007, .inl t_roots_least))]) [1, 2] rfl
    have hDc := hD.sub (ws' := [(h0_roots, .inr (1, [.ref h0_roots_least, .int t_roots_prime])), (h0_roots_least, .inl (k_t_roots_least, 10007, .inl t_roots_least))]) [1, 2] (by decide) rfl
    have hKc := hK.sub (tys' := [(k_t_roots_least, .int)]) [0] rfl
    have hFc := va_free (wc := [(h0_roots, .inr (1, [.ref h0_roots_least, .int t_roots_prime])), (h0_roots_least, .inl (k_t_roots_least, 10007, .inl t_roots_least))]) hD hS hA0 [1, 2] rfl
    refine va_calli (va_runV (As := [.int a0, .int a1]) (rest := []) ⟨hx, hb, hml, hown, hts⟩ (ctX1_leastRoot l N dC dI _ h0_roots h0_roots_least k_t_roots_least t_roots_prime t_roots_least a0 a1 r2 hr2) (cwV 2 hts gX3_manyAt_X1_leastRoot rfl rfl rfl (by decide +kernel) ⟨Nat.le_of_ble_eq_true rfl, Nat.le_of_ble_eq_true rfl⟩) ⟨fun a U g mk q => by obtain ⟨q0, q1, qP, qK, qN, qD⟩ := q; exact ⟨q0, q1, qP, va_K.moved (u := U) (U := U.calling g mk a) (Vm.Alike.refl U.vm) qK, nw_same (u := U) (U := U.calling g mk a) rfl qN, qD⟩, va_recv hKc hPc (ci := 1) (q0 := 0) rfl rfl, fun U hU hW => ⟨rfl, by rw [hU], by rw [hU]; exact hPc, va_K.moved hW.alike hKc, nw_warm hW hN, hDc.weaken (fun _ _ _ _ => trivial)⟩⟩ rfl rfl hl.1 rfl (lv_room (Nat.le_of_ble_eq_true rfl)) dX3_manyAt_12 ⟨Nat.le_of_ble_eq_true rfl, Nat.le_of_ble_eq_true rfl⟩) hS (fun q _ h => hFc q h) hFc (fun rz u t H1 locs ht hvm hw hB1 hz1 hk1 hS => ?_)
    obtain ⟨u3, f4⟩ := u
    obtain ⟨hP1, hK1, hD1⟩ := hB1
    rw [ht] at hP1
    have hK1 := va_K.moved hvm.symm hK1
    obtain ⟨r5, rfl⟩ : ∃ z, z = rz := ⟨_, rfl⟩
    subst hw
    dsimp only at h
    obtain ⟨hP, hD⟩ := va_join (wr := [(h0, .inr (3, [.ref h0_roots, .ref h0_strides, .ref h0_halvesFound]))]) (w1 := [(h0_roots, .inr (1, [.ref h0_roots_least, .int u3])), (h0_roots_least, .inl (k_t_roots_least, 10007, .inl f4))]) hP hD [1, 2] [0] rfl rfl (by decide) (by decide) hk1 hFc hP1 hD1
    generalize H1 = H at hP hS ⊢
    have hP := hP.sub (ws' := [(h0, .inr (3, [.ref h0_roots, .ref h0_strides, .ref h0_halvesFound])), (h0_roots, .inr (1, [.ref h0_roots_least, .int u3])), (h0_roots_least, .inl (k_t_roots_least, 10007, .inl f4))]) [0, 1, 2] rfl
    have hD := hD.sub (ws' := [(h0, .inr (3, [.ref h0_roots, .ref h0_strides, .ref h0_halvesFound])), (h0_roots, .inr (1, [.ref h0_roots_least, .int u3])), (h0_roots_least, .inl (k_t_roots_least, 10007, .inl f4))]) [0, 1, 2] (by decide) rfl
    refine lv_if_le (tgt := 22) hx hb dX3_manyAt_15 (by decide) (fun c6 => ?_) (fun c6 => ?_)
    · replace h := (if_pos c6).symm.trans h
      refine lv_iconst (v := 0) hx hb dX3_manyAt_22 (by decide) ?_
      have hv : (0, u3, f4) = rr := Option.some.inj h
      have hP9 := hP.sub (ws' := [(h0, .inr (3, [.ref h0_roots, .ref h0_strides, .ref h0_halvesFound])), (h0_roots, .inr (1, [.ref h0_roots_least, .int u3])), (h0_roots_least, .inl (k_t_roots_least, 10007, .inl f4))]) [0, 1, 2] rfl
      have hD9 := hD.sub (ws' := [(h0, .inr (3, [.ref h0_roots, .ref h0_strides, .ref h0_halvesFound])), (h0_roots, .inr (1, [.ref h0_roots_least, .int u3])), (h0_roots_least, .inl (k_t_roots_least, 10007, .inl f4))]) [0, 1, 2] (by decide) rfl
      have hK9 := hK.sub (tys' := [(k_t_roots_least, .int)]) [0] rfl
      exact W.iret (v := 0) hx hb hr (fun t ht hW => ⟨⟨0, (u3, f4), rfl, hv, by rw [ht]; exact hP9, va_K.moved hW.alike hK9, hD9⟩, hS.F ht⟩) hS.2.2 dX3_manyAt_23
    · replace h := (if_neg c6).symm.trans h
      refine lv_iconst (v := 2) hx hb dX3_manyAt_18 (by decide) ?_
      refine lv_goto (tgt := 23) hx hb dX3_manyAt_19 (by decide) ?_
      have hv : (2, u3, f4) = rr := Option.some.inj h
      have hP9 := hP.sub (ws' := [(h0, .inr (3, [.ref h0_roots, .ref h0_strides, .ref h0_halvesFound])), (h0_roots, .inr (1, [.ref h0_roots_least, .int u3])), (h0_roots_least, .inl (k_t_roots_least, 10007, .inl f4))]) [0, 1, 2] rfl
      have hD9 := hD.sub (ws' := [(h0, .inr (3, [.ref h0_roots, .ref h0_strides, .ref h0_halvesFound])), (h0_roots, .inr (1, [.ref h0_roots_least, .int u3])), (h0_roots_least, .inl (k_t_roots_least, 10007, .inl f4))]) [0, 1, 2] (by decide) rfl
      have hK9 := hK.sub (tys' := [(k_t_roots_least, .int)]) [0] rfl
      exact W.iret (v := 2) hx hb hr (fun t ht hW => ⟨⟨2, (u3, f4), rfl, hv, by rw [ht]; exact hP9, va_K.moved hW.alike hK9, hD9⟩, hS.F ht⟩) hS.2.2 dX3_manyAt_23
  · replace h := (if_pos c1).symm.trans h
    refine lv_iconst (v := 1) hx hb dX3_manyAt_4 (by decide) ?_
    have hv : (1, t_roots_prime, t_roots_least) = rr := Option.some.inj h
    have hP9 := hP.sub (ws' := [(h0, .inr (3, [.ref h0_roots, .ref h0_strides, .ref h0_halvesFound])), (h0_roots, .inr (1, [.ref h0_roots_least, .int t_roots_prime])), (h0_roots_least, .inl (k_t_roots_least, 10007, .inl t_roots_least))]) [0, 1, 2] rfl
    have hD9 := hD.sub (ws' := [(h0, .inr (3, [.ref h0_roots, .ref h0_strides, .ref h0_halvesFound])), (h0_roots, .inr (1, [.ref h0_roots_least, .int t_roots_prime])), (h0_roots_least, .inl (k_t_roots_least, 10007, .inl t_roots_least))]) [0, 1, 2] (by decide) rfl
    have hK9 := hK.sub (tys' := [(k_t_roots_least, .int)]) [0] rfl
    exact W.iret (v := 1) hx hb hr (fun t ht hW => ⟨⟨1, (t_roots_prime, t_roots_least), rfl, hv, by rw [ht]; exact hP9, va_K.moved hW.alike hK9, hD9⟩, hS.F ht⟩) hS.2.2 dX3_manyAt_5
end
section
def mX3_manyPoints_b6 (N : Nat) (a0 : Int32) (a1 : Int32) (a2 : Int32) (st : Int32 × Int32 × Int32 × (Nat → Int32)) : Option ((Int32 × Int32 × Int32 × (Nat → Int32)) ⊕ (Int32 × Int32 × Int32 × (Nat → Int32))) :=
  match st with
  | (x1, x2, x3, x4) => if a0 ≤ x2 then some (.inr (x1, x2, x3, x4)) else if a0 = 0 then none else mi_let (mi_rem ((x2 * x2) + a1) a0) (fun v11 => if a0 = 0 then none else mi_let (mi_rem ((v11 * x2) + a2) a0) (fun v13 => (mX3_manyAt N x3 x4 v13 a0).bind (fun r14 => match r14 with | (r17, u15, f16) => mi_let (x1 + r17) (fun v18 => mi_let (x2 + 1) (fun v19 => some (.inl (v18, v19, u15, f16)))))))
def mX3_manyPoints (N : Nat) (t_roots_prime : Int32) (t_roots_least : Nat → Int32) (a0 : Int32) (a1 : Int32) (a2 : Int32) : Option (Int32 × Int32 × (Nat → Int32)) := (mi_run (mX3_manyPoints_b6 N a0 a1 a2) N (1, 0, t_roots_prime, t_roots_least)).bind (fun o20 => match o20 with | (y5, y6, y7, y8) => some (y5, y7, y8))
abbrev rmX3_manyPoints : Room := { frames := 3, cells := 0, slots := 0, locals := 66 }
set_option maxHeartbeats 4000000 in
set_option maxRecDepth 100000 in
theorem ctX3_manyPoints (l : Launch) (N : Nat) (dC : Nat → ClassId) (dI : Nat → Nat → Nat) (sz : Nat) (h0 : Nat) (h0_roots : Nat) (h0_roots_least : Nat) (h0_strides : Nat) (h0_halvesFound : Nat) (k_t_roots_least : ClassId) (t_roots_prime : Int32) (t_roots_least : Nat → Int32) (a0 : Int32) (a1 : Int32) (a2 : Int32) (rr : Int32 × Int32 × (Nat → Int32)) (h : mX3_manyPoints N t_roots_prime t_roots_least a0 a1 a2 = some rr) : Met l yX3_manyPoints wsX3_manyPoints rmX3_manyPoints (va_Pc [.ref h0, .int a0, .int a1, .int a2] (fun U => U.heap.size = sz ∧ va_P (dC, dI) vwCl [(h0, .inr (3, [.ref h0_roots, .ref h0_strides, .ref h0_halvesFound])), (h0_roots, .inr (1, [.ref h0_roots_least, .int t_roots_prime])), (h0_roots_least, .inl (k_t_roots_least, 10007, .inl t_roots_least))] U.heap ∧ va_K (dC, dI) vwCl [(k_t_roots_least, .int)] U ∧ nw_all U ∧ va_D (fun _ => True) [(h0, .inr (3, [.ref h0_roots, .ref h0_strides, .ref h0_halvesFound])), (h0_roots, .inr (1, [.ref h0_roots_least, .int t_roots_prime])), (h0_roots_least, .inl (k_t_roots_least, 10007, .inl t_roots_least))])) (va_Qi (fun (r : Int32) (u : Int32 × (Nat → Int32)) => (r, u) = rr) (fun (u : Int32 × (Nat → Int32)) t => match u with | (u0, u1) => va_P (dC, dI) vwCl [(h0, .inr (3, [.ref h0_roots, .ref h0_strides, .ref h0_halvesFound])), (h0_roots, .inr (1, [.ref h0_roots_least, .int u0])), (h0_roots_least, .inl (k_t_roots_least, 10007, .inl u1))] t.heap ∧ va_K (dC, dI) vwCl [(k_t_roots_least, .int)] t ∧ va_D (va_A [(h0, .inr (3, [.ref h0_roots, .ref h0_strides, .ref h0_halvesFound])), (h0_roots, .inr (1, [.ref h0_roots_least, .int t_roots_prime])), (h0_roots_least, .inl (k_t_roots_least, 10007, .inl t_roots_least))] sz) [(h0, .inr (3, [.ref h0_roots, .ref h0_strides, .ref h0_halvesFound])), (h0_roots, .inr (1, [.ref h0_roots_least, .int u0])), (h0_roots_least, .inl (k_t_roots_least, 10007, .inl u1))]) (va_A [(h0, .inr (3, [.ref h0_roots, .ref h0_strides, .ref h0_halvesFound])), (h0_roots, .inr (1, [.ref h0_roots_least, .int t_roots_prime])), (h0_roots_least, .inl (k_t_roots_least, 10007, .inl t_roots_least))] sz)) 0 0 (va_A [(h0, .inr (3, [.ref h0_roots, .ref h0_strides, .ref h0_halvesFound])), (h0_roots, .inr (1, [.ref h0_roots_least, .int t_roots_prime])), (h0_roots_least, .inl (k_t_roots_least, 10007, .inl t_roots_least))] sz) := by
  refine Met.ofW (cc := cX3_manyPoints) (maxL := 6) (ret := (some .int)) (by decide) rfl ?_
  intro p e s m args below meth c s₁ B hml hv
  obtain ⟨rfl, hsz, hP, hK, hN, hD0⟩ := hv
  have hx := B.exec
  have hb := B.bytes
  have hr := B.returns
  have hts := atoms_spec (ws := wsX3_manyPoints) B.pre
  have hown : s.vm.findClass RX3 = some m.cls := findClass_of_methodNamed B.named
  have hlocks := B.notSynchronized
  subst hsz
  have hD := hD0.self (sz := s.heap.size)
  generalize hAe : va_A [(h0, .inr (3, [.ref h0_roots, .ref h0_strides, .ref h0_halvesFound])), (h0_roots, .inr (1, [.ref h0_roots_least, .int t_roots_prime])), (h0_roots_least, .inl (k_t_roots_least, 10007, .inl t_roots_least))] s.heap.size = A at hD ⊢
  have hA0 : ∀ q : Nat, s.heap.size ≤ q → A q := fun q h => by rw [← hAe]; exact Or.inr h
  have hS : va_S A s.heap s.heap [] := va_S.rf
  have hP : va_P (dC, dI) vwCl [(h0, .inr (3, [.ref h0_roots, .ref h0_strides, .ref h0_halvesFound])), (h0_roots, .inr (1, [.ref h0_roots_least, .int t_roots_prime])), (h0_roots_least, .inl (k_t_roots_least, 10007, .inl t_roots_least))] s.heap := hP
  have hl := lv_entry ([.ref h0, .int a0, .int a1, .int a2]) (n := 6) (Nat.le_of_ble_eq_true rfl)
  rw [lg_entry_eq]
  generalize (lg_sl ([.ref h0, .int a0, .int a1, .int a2]) ++ List.replicate (6 - (lg_sl ([.ref h0, .int a0, .int a1, .int a2])).length) Slot.unset).toArray = ls at hl ⊢
  have hl : lv_has ls 6 [(0, .ref h0), (1, .int a0), (2, .int a1), (3, .int a2)] := hl
  dsimp only [mX3_manyPoints] at h
  refine lv_iconst (v := 1) hx hb dX3_manyPoints_0 (by decide) ?_
  refine lv_istore (lv' := [(4, .int 1), (0, .ref h0), (1, .int a0), (2, .int a1), (3, .int a2)]) hx hb dX3_manyPoints_1 hl (by decide) rfl (fun ls hl => ?_)
  refine lv_iconst (v := 0) hx hb dX3_manyPoints_3 (by decide) ?_
  refine lv_istore (lv' := [(5, .int 0), (4, .int 1), (0, .ref h0), (1, .int a0), (2, .int a1), (3, .int a2)]) hx hb dX3_manyPoints_4 hl (by decide) rfl (fun ls hl => ?_)
  have L6 : ∀ (n : Nat) (x1 : Int32) (x2 : Int32) (x3 : Int32) (x4 : Nat → Int32) (o : Int32 × Int32 × Int32 × (Nat → Int32)), mi_run (mX3_manyPoints_b6 N a0 a1 a2) n (x1, x2, x3, x4) = some o → (∀ (y5 : Int32) (y6 : Int32) (y7 : Int32) (y8 : Nat → Int32), o = (y5, y6, y7, y8) → ∀ (H : Heap) (locs : List Loc) (ls : Array Slot), va_P (dC, dI) vwCl [(h0, .inr (3, [.ref h0_roots, .ref h0_strides, .ref h0_halvesFound])), (h0_roots, .inr (1, [.ref h0_roots_least, .int y7])), (h0_roots_least, .inl (k_t_roots_least, 10007, .inl y8))] H → va_D A [(h0, .inr (3, [.ref h0_roots, .ref h0_strides, .ref h0_halvesFound])), (h0_roots, .inr (1, [.ref h0_roots_least, .int y7])), (h0_roots_least, .inl (k_t_roots_least, 10007, .inl y8))] → va_S A s.heap H locs → lv_has ls 6 [(4, .int y5), (5, .int y6), (0, .ref h0), (1, .int a0), (2, .int a1), (3, .int a2)] → W p l e (headSpec wsX3_manyPoints rmX3_manyPoints).room s m (([.ref h0, .int a0, .int a1, .int a2] : List Value).toArray) below meth c H locs 0 0 (MQ below (va_Qi (fun (r : Int32) (u : Int32 × (Nat → Int32)) => (r, u) = rr) (fun (u : Int32 × (Nat → Int32)) t => match u with | (u0, u1) => va_P (dC, dI) vwCl [(h0, .inr (3, [.ref h0_roots, .ref h0_strides, .ref h0_halvesFound])), (h0_roots, .inr (1, [.ref h0_roots_least, .int u0])), (h0_roots_least, .inl (k_t_roots_least, 10007, .inl u1))] t.heap ∧ va_K (dC, dI) vwCl [(k_t_roots_least, .int)] t ∧ va_D (A) [(h0, .inr (3, [.ref h0_roots, .ref h0_strides, .ref h0_halvesFound])), (h0_roots, .inr (1, [.ref h0_roots_least, .int u0])), (h0_roots_least, .inl (k_t_roots_least, 10007, .inl u1))]) (A)) (([.ref h0, .int a0, .int a1, .int a2] : List Value).toArray) s 0 0 A) (F0 m 44 ls [])) → ∀ (H : Heap) (locs : List Loc) (ls : Array Slot), va_P (dC, dI) vwCl [(h0, .inr (3, [.ref h0_roots, .ref h0_strides, .ref h0_halvesFound])), (h0_roots, .inr (1, [.ref h0_roots_least, .int x3])), (h0_roots_least, .inl (k_t_roots_least, 10007, .inl x4))] H → va_D A [(h0, .inr (3, [.ref h0_roots, .ref h0_strides, .ref h0_halvesFound])), (h0_roots, .inr (1, [.ref h0_roots_least, .int x3])), (h0_roots_least, .inl (k_t_roots_least, 10007, .inl x4))] → va_S A s.heap H locs → lv_has ls 6 [(4, .int x1), (5, .int x2), (0, .ref h0), (1, .int a0), (2, .int a1), (3, .int a2)] → W p l e (headSpec wsX3_manyPoints rmX3_manyPoints).room s m (([.ref h0, .int a0, .int a1, .int a2] : List Value).toArray) below meth c H locs 0 0 (MQ below (va_Qi (fun (r : Int32) (u : Int32 × (Nat → Int32)) => (r, u) = rr) (fun (u : Int32 × (Nat → Int32)) t => match u with | (u0, u1) => va_P (dC, dI) vwCl [(h0, .inr (3, [.ref h0_roots, .ref h0_strides, .ref h0_halvesFound])), (h0_roots, .inr (1, [.ref h0_roots_least, .int u0])), (h0_roots_least, .inl (k_t_roots_least, 10007, .inl u1))] t.heap ∧ va_K (dC, dI) vwCl [(k_t_roots_least, .int)] t ∧ va_D (A) [(h0, .inr (3, [.ref h0_roots, .ref h0_strides, .ref h0_halvesFound])), (h0_roots, .inr (1, [.ref h0_roots_least, .int u0])), (h0_roots_least, .inl (k_t_roots_least, 10007, .inl u1))]) (A)) (([.ref h0, .int a0, .int a1, .int a2] : List Value).toArray) s 0 0 A) (F0 m 6 ls []) := by
    intro n
    induction n with
    | zero => intro x1 x2 x3 x4 o h; exact absurd h (mi_run_0 _ _ _)
    | succ n ih =>
      intro x1 x2 x3 x4 o h hkE H locs ls hP hD hS hl
      obtain ⟨w, h, hA, hB⟩ := mi_run_s h
      dsimp only [mX3_manyPoints_b6] at h
      refine lv_iload hx hb dX3_manyPoints_6 (lv_at hl 1 rfl) ?_
      refine lv_iload_n hx hb dX3_manyPoints_8 rfl (lv_at hl 3 rfl) ?_
      refine lv_icmp_ge (tgt := 44) hx hb dX3_manyPoints_9 (by decide) (fun c9 => ?_) (fun c9 => ?_)
      · replace h := (if_pos c9).symm.trans h
        exact hkE _ _ _ _ (hB _ (Option.some.inj h).symm) _ _ ls hP hD hS (lv_sub hl [0, 1, 2, 3, 4, 5] rfl)
      · replace h := (if_neg c9).symm.trans h
        refine lv_iload hx hb dX3_manyPoints_12 (lv_at hl 0 rfl) ?_
        refine lv_aload_n hx hb dX3_manyPoints_14 rfl (lv_at hl 2 rfl) ?_
        refine lv_iload hx hb dX3_manyPoints_15 (lv_at hl 1 rfl) ?_
        refine lv_iload hx hb dX3_manyPoints_17 (lv_at hl 1 rfl) ?_
        refine lv_imul hx hb dX3_manyPoints_19 ?_
        refine lv_iload_n hx hb dX3_manyPoints_20 rfl (lv_at hl 4 rfl) ?_
        refine lv_iadd hx hb dX3_manyPoints_21 ?_
        refine lv_iload_n hx hb dX3_manyPoints_22 rfl (lv_at hl 3 rfl) ?_
        have hn10 : ¬ a0 = 0 := fun hz => absurd ((if_pos hz).symm.trans h) (fun hh => nomatch hh)
        replace h := (if_neg hn10).symm.trans h
        refine lv_irem hx hb dX3_manyPoints_23 hn10 ?_
        refine lv_topi (fun v11 ev11 => ?_)
        replace h := mi_use ev11 h
        refine lv_iload hx hb dX3_manyPoints_24 (lv_at hl 1 rfl) ?_
        refine lv_imul hx hb dX3_manyPoints_26 ?_
        refine lv_iload_n hx hb dX3_manyPoints_27 rfl (lv_at hl 5 rfl) ?_
        refine lv_iadd hx hb dX3_manyPoints_28 ?_
        refine lv_iload_n hx hb dX3_manyPoints_29 rfl (lv_at hl 3 rfl) ?_
        have hn12 : ¬ a0 = 0 := fun hz => absurd ((if_pos hz).symm.trans h) (fun hh => nomatch hh)
        replace h := (if_neg hn12).symm.trans h
        refine lv_irem hx hb dX3_manyPoints_30 hn12 ?_
        refine lv_topi (fun v13 ev13 => ?_)
        replace h := mi_use ev13 h
        refine lv_iload_n hx hb dX3_manyPoints_31 rfl (lv_at hl 3 rfl) ?_
        obtain ⟨r14, hr14, h⟩ := Option.bind_eq_some_iff.mp h
        have hPc := hP.sub (ws' := [(h0, .inr (3, [.ref h0_roots, .ref h0_strides, .ref h0_halvesFound])), (h0_roots, .inr (1, [.ref h0_roots_least, .int x3])), (h0_roots_least, .inl (k_t_roots_least, 10007, .inl x4))]) [0, 1, 2] rfl
        have hDc := hD.sub (ws' := [(h0, .inr (3, [.ref h0_roots, .ref h0_strides, .ref h0_halvesFound])), (h0_roots, .inr (1, [.ref h0_roots_least, .int x3])), (h0_roots_least, .inl (k_t_roots_least, 10007, .inl x4))]) [0, 1, 2] (by decide) rfl
        have hKc := hK.sub (tys' := [(k_t_roots_least, .int)]) [0] rfl
        have hFc := va_free (wc := [(h0, .inr (3, [.ref h0_roots, .ref h0_strides, .ref h0_halvesFound])), (h0_roots, .inr (1, [.ref h0_roots_least, .int x3])), (h0_roots_least, .inl (k_t_roots_least, 10007, .inl x4))]) hD hS hA0 [0, 1, 2] rfl
        refine va_calli (va_runV (As := [.int v13, .int a0]) (rest := [.int x1]) ⟨hx, hb, hml, hown, hts⟩ (ctX3_manyAt l N dC dI _ h0 h0_roots h0_roots_least h0_strides h0_halvesFound k_t_roots_least x3 x4 v13 a0 r14 hr14) (cwV 2 hts gX3_manyPoints_X3_manyAt rfl rfl rfl (by decide +kernel) ⟨Nat.le_of_ble_eq_true rfl, Nat.le_of_ble_eq_true rfl⟩) ⟨fun a U g mk q => by obtain ⟨q0, q1, qP, qK, qN, qD⟩ := q; exact ⟨q0, q1, qP, va_K.moved (u := U) (U := U.calling g mk a) (Vm.Alike.refl U.vm) qK, nw_same (u := U) (U := U.calling g mk a) rfl qN, qD⟩, va_recv hKc hPc (ci := 3) (q0 := 0) rfl rfl, fun U hU hW => ⟨rfl, by rw [hU], by rw [hU]; exact hPc, va_K.moved hW.alike hKc, nw_warm hW hN, hDc.weaken (fun _ _ _ _ => trivial)⟩⟩ rfl rfl hl.1 rfl (lv_room (Nat.le_of_ble_eq_true rfl)) dX3_manyPoints_32 ⟨Nat.le_of_ble_eq_true rfl, Nat.le_of_ble_eq_true rfl⟩) hS (fun q _ h => hFc q h) hFc (fun rz u t H1 locs ht hvm hw hB1 hz1 hk1 hS => ?_)
        obtain ⟨u15, f16⟩ := u
        obtain ⟨hP1, hK1, hD1⟩ := hB1
        rw [ht] at hP1
        have hK1 := va_K.moved hvm.symm hK1
        obtain ⟨r17, rfl⟩ : ∃ z, z = rz := ⟨_, rfl⟩
        subst hw
        dsimp only at h
        obtain ⟨hP, hD⟩ := va_join (wr := []) (w1 := [(h0, .inr (3, [.ref h0_roots, .ref h0_strides, .ref h0_halvesFound])), (h0_roots, .inr (1, [.ref h0_roots_least, .int u15])), (h0_roots_least, .inl (k_t_roots_least, 10007, .inl f16))]) hP hD [0, 1, 2] [] rfl rfl (by decide) (by decide) hk1 hFc hP1 hD1
        generalize H1 = H at hP hS ⊢
        have hP := hP.sub (ws' := [(h0, .inr (3, [.ref h0_roots, .ref h0_strides, .ref h0_halvesFound])), (h0_roots, .inr (1, [.ref h0_roots_least, .int u15])), (h0_roots_least, .inl (k_t_roots_least, 10007, .inl f16))]) [0, 1, 2] rfl
        have hD := hD.sub (ws' := [(h0, .inr (3, [.ref h0_roots, .ref h0_strides, .ref h0_halvesFound])), (h0_roots, .inr (1, [.ref h0_roots_least, .int u15])), (h0_roots_least, .inl (k_t_roots_least, 10007, .inl f16))]) [0, 1, 2] (by decide) rfl
        refine lv_iadd hx hb dX3_manyPoints_35 ?_
        refine lv_topi (fun v18 ev18 => ?_)
        replace h := mi_use ev18 h
        refine lv_istore (lv' := [(4, .int v18), (5, .int x2), (0, .ref h0), (1, .int a0), (2, .int a1), (3, .int a2)]) hx hb dX3_manyPoints_36 hl (by decide) rfl (fun ls hl => ?_)
        obtain ⟨v19, ev19⟩ : ∃ z : Int32, z = x2 + 1 := ⟨_, rfl⟩
        refine lv_iinc (v := v19) (lv' := [(5, .int v19), (4, .int v18), (0, .ref h0), (1, .int a0), (2, .int a1), (3, .int a2)]) hx hb dX3_manyPoints_38 hl (k := 1) rfl (by rw [ev19]; rfl) (by decide) rfl (fun ls hl => ?_)
        replace h := mi_use ev19 h
        refine lv_goto (tgt := 6) hx hb dX3_manyPoints_41 (by decide) ?_
        exact ih _ _ _ _ _ (hA _ (Option.some.inj h).symm) hkE _ _ ls hP hD hS (lv_sub hl [1, 0, 2, 3, 4, 5] rfl)
  obtain ⟨o20, ho20, h⟩ := Option.bind_eq_some_iff.mp h
  refine L6 N _ _ _ _ o20 ho20 ?_ _ _ ls hP hD hS (lv_sub hl [1, 0, 2, 3, 4, 5] rfl)
  intro y5 y6 y7 y8 eo H locs ls hP hD hS hl
  subst eo
  dsimp only at h
  refine lv_iload hx hb dX3_manyPoints_44 (lv_at hl 0 rfl) ?_
  have hv : (y5, y7, y8) = rr := Option.some.inj h
  have hP9 := hP.sub (ws' := [(h0, .inr (3, [.ref h0_roots, .ref h0_strides, .ref h0_halvesFound])), (h0_roots, .inr (1, [.ref h0_roots_least, .int y7])), (h0_roots_least, .inl (k_t_roots_least, 10007, .inl y8))]) [0, 1, 2] rfl
  have hD9 := hD.sub (ws' := [(h0, .inr (3, [.ref h0_roots, .ref h0_strides, .ref h0_halvesFound])), (h0_roots, .inr (1, [.ref h0_roots_least, .int y7])), (h0_roots_least, .inl (k_t_roots_least, 10007, .inl y8))]) [0, 1, 2] (by decide) rfl
  have hK9 := hK.sub (tys' := [(k_t_roots_least, .int)]) [0] rfl
  exact W.iret (v := y5) hx hb hr (fun t ht hW => ⟨⟨y5, (y7, y8), rfl, hv, by rw [ht]; exact hP9, va_K.moved hW.alike hK9, hD9⟩, hS.F ht⟩) hS.2.2 dX3_manyPoints_46
end
section
def mX3_manyWithoutA_b5 (N : Nat) (a0 : Int32) (a1 : Int32) (st : Int32 × Int32 × Int32 × (Nat → Int32)) : Option ((Int32 × Int32 × Int32 × (Nat → Int32)) ⊕ (Int32 × Int32 × Int32 × (Nat → Int32))) :=
  match st with
  | (x1, x2, x3, x4) => if a0 ≤ x2 then some (.inr (x1, x2, x3, x4)) else (mX3_manyPoints N x3 x4 a0 0 x2).bind (fun r10 => match r10 with | (r13, u11, f12) => if r13 = a1 then mi_let (x1 + 1) (fun v17 => mi_let (x2 + 1) (fun v18 => some (.inl (v17, v18, u11, f12)))) else mi_let (x1 + 0) (fun v15 => mi_let (x2 + 1) (fun v16 => some (.inl (v15, v16, u11, f12)))))
def mX3_manyWithoutA (N : Nat) (t_roots_prime : Int32) (t_roots_least : Nat → Int32) (a0 : Int32) (a1 : Int32) : Option (Int32 × Int32 × (Nat → Int32)) := (mi_run (mX3_manyWithoutA_b5 N a0 a1) N (0, 1, t_roots_prime, t_roots_least)).bind (fun o19 => match o19 with | (y5, y6, y7, y8) => some (y5, y7, y8))
abbrev rmX3_manyWithoutA : Room := { frames := 4, cells := 0, slots := 0, locals := 91 }
set_option maxHeartbeats 4000000 in
set_option maxRecDepth 100000 in
theorem ctX3_manyWithoutA (l : Launch) (N : Nat) (dC : Nat → ClassId) (dI : Nat → Nat → Nat) (sz : Nat) (h0 : Nat) (h0_roots : Nat) (h0_roots_least : Nat) (h0_strides : Nat) (h0_halvesFound : Nat) (k_t_roots_least : ClassId) (t_roots_prime : Int32) (t_roots_least : Nat → Int32) (a0 : Int32) (a1 : Int32) (rr : Int32 × Int32 × (Nat → Int32)) (h : mX3_manyWithoutA N t_roots_prime t_roots_least a0 a1 = some rr) : Met l yX3_manyWithoutA wsX3_manyWithoutA rmX3_manyWithoutA (va_Pc [.ref h0, .int a0, .int a1] (fun U => U.heap.size = sz ∧ va_P (dC, dI) vwCl [(h0, .inr (3, [.ref h0_roots, .ref h0_strides, .ref h0_halvesFound])), (h0_roots, .inr (1, [.ref h0_roots_least, .int t_roots_prime])), (h0_roots_least, .inl (k_t_roots_least, 10007, .inl t_roots_least))] U.heap ∧ va_K (dC, dI) vwCl [(k_t_roots_least, .int)] U ∧ nw_all U ∧ va_D (fun _ => True) [(h0, .inr (3, [.ref h0_roots, .ref h0_strides, .ref h0_halvesFound])), (h0_roots, .inr (1, [.ref h0_roots_least, .int t_roots_prime])), (h0_roots_least, .inl (k_t_roots_least, 10007, .inl t_roots_least))])) (va_Qi (fun (r : Int32) (u : Int32 × (Nat → Int32)) => (r, u) = rr) (fun (u : Int32 × (Nat → Int32)) t => match u with | (u0, u1) => va_P (dC, dI) vwCl [(h0, .inr (3, [.ref h0_roots, .ref h0_strides, .ref h0_halvesFound])), (h0_roots, .inr (1, [.ref h0_roots_least, .int u0])), (h0_roots_least, .inl (k_t_roots_least, 10007, .inl u1))] t.heap ∧ va_K (dC, dI) vwCl [(k_t_roots_least, .int)] t ∧ va_D (va_A [(h0, .inr (3, [.ref h0_roots, .ref h0_strides, .ref h0_halvesFound])), (h0_roots, .inr (1, [.ref h0_roots_least, .int t_roots_prime])), (h0_roots_least, .inl (k_t_roots_least, 10007, .inl t_roots_least))] sz) [(h0, .inr (3, [.ref h0_roots, .ref h0_strides, .ref h0_halvesFound])), (h0_roots, .inr (1, [.ref h0_roots_least, .int u0])), (h0_roots_least, .inl (k_t_roots_least, 10007, .inl u1))]) (va_A [(h0, .inr (3, [.ref h0_roots, .ref h0_strides, .ref h0_halvesFound])), (h0_roots, .inr (1, [.ref h0_roots_least, .int t_roots_prime])), (h0_roots_least, .inl (k_t_roots_least, 10007, .inl t_roots_least))] sz)) 0 0 (va_A [(h0, .inr (3, [.ref h0_roots, .ref h0_strides, .ref h0_halvesFound])), (h0_roots, .inr (1, [.ref h0_roots_least, .int t_roots_prime])), (h0_roots_least, .inl (k_t_roots_least, 10007, .inl t_roots_least))] sz) := by
  refine Met.ofW (cc := cX3_manyWithoutA) (maxL := 5) (ret := (some .int)) (by decide) rfl ?_
  intro p e s m args below meth c s₁ B hml hv
  obtain ⟨rfl, hsz, hP, hK, hN, hD0⟩ := hv
  have hx := B.exec
  have hb := B.bytes
  have hr := B.returns
  have hts := atoms_spec (ws := wsX3_manyWithoutA) B.pre
  have hown : s.vm.findClass RX3 = some m.cls := findClass_of_methodNamed B.named
  have hlocks := B.notSynchronized
  subst hsz
  have hD := hD0.self (sz := s.heap.size)
  generalize hAe : va_A [(h0, .inr (3, [.ref h0_roots, .ref h0_strides, .ref h0_halvesFound])), (h0_roots, .inr (1, [.ref h0_roots_least, .int t_roots_prime])), (h0_roots_least, .inl (k_t_roots_least, 10007, .inl t_roots_least))] s.heap.size = A at hD ⊢
  have hA0 : ∀ q : Nat, s.heap.size ≤ q → A q := fun q h => by rw [← hAe]; exact Or.inr h
  have hS : va_S A s.heap s.heap [] := va_S.rf
  have hP : va_P (dC, dI) vwCl [(h0, .inr (3, [.ref h0_roots, .ref h0_strides, .ref h0_halvesFound])), (h0_roots, .inr (1, [.ref h0_roots_least, .int t_roots_prime])), (h0_roots_least, .inl (k_t_roots_least, 10007, .inl t_roots_least))] s.heap := hP
  have hl := lv_entry ([.ref h0, .int a0, .int a1]) (n := 5) (Nat.le_of_ble_eq_true rfl)
  rw [lg_entry_eq]
  generalize (lg_sl ([.ref h0, .int a0, .int a1]) ++ List.replicate (5 - (lg_sl ([.ref h0, .int a0, .int a1])).length) Slot.unset).toArray = ls at hl ⊢
  have hl : lv_has ls 5 [(0, .ref h0), (1, .int a0), (2, .int a1)] := hl
  dsimp only [mX3_manyWithoutA] at h
  refine lv_iconst (v := 0) hx hb dX3_manyWithoutA_0 (by decide) ?_
  refine lv_istore_n (lv' := [(3, .int 0), (0, .ref h0), (1, .int a0), (2, .int a1)]) hx hb dX3_manyWithoutA_1 rfl hl (by decide) rfl (fun ls hl => ?_)
  refine lv_iconst (v := 1) hx hb dX3_manyWithoutA_2 (by decide) ?_
  refine lv_istore (lv' := [(4, .int 1), (3, .int 0), (0, .ref h0), (1, .int a0), (2, .int a1)]) hx hb dX3_manyWithoutA_3 hl (by decide) rfl (fun ls hl => ?_)
  have L5 : ∀ (n : Nat) (x1 : Int32) (x2 : Int32) (x3 : Int32) (x4 : Nat → Int32) (o : Int32 × Int32 × Int32 × (Nat → Int32)), mi_run (mX3_manyWithoutA_b5 N a0 a1) n (x1, x2, x3, x4) = some o → (∀ (y5 : Int32) (y6 : Int32) (y7 : Int32) (y8 : Nat → Int32), o = (y5, y6, y7, y8) → ∀ (H : Heap) (locs : List Loc) (ls : Array Slot), va_P (dC, dI) vwCl [(h0, .inr (3, [.ref h0_roots, .ref h0_strides, .ref h0_halvesFound])), (h0_roots, .inr (1, [.ref h0_roots_least, .int y7])), (h0_roots_least, .inl (k_t_roots_least, 10007, .inl y8))] H → va_D A [(h0, .inr (3, [.ref h0_roots, .ref h0_strides, .ref h0_halvesFound])), (h0_roots, .inr (1, [.ref h0_roots_least, .int y7])), (h0_roots_least, .inl (k_t_roots_least, 10007, .inl y8))] → va_S A s.heap H locs → lv_has ls 5 [(3, .int y5), (4, .int y6), (0, .ref h0), (1, .int a0), (2, .int a1)] → W p l e (headSpec wsX3_manyWithoutA rmX3_manyWithoutA).room s m (([.ref h0, .int a0, .int a1] : List Value).toArray) below meth c H locs 0 0 (MQ below (va_Qi (fun (r : Int32) (u : Int32 × (Nat → Int32)) => (r, u) = rr) (fun (u : Int32 × (Nat → Int32)) t => match u with | (u0, u1) => va_P (dC, dI) vwCl [(h0, .inr (3, [.ref h0_roots, .ref h0_strides, .ref h0_halvesFound])), (h0_roots, .inr (1, [.ref h0_roots_least, .int u0])), (h0_roots_least, .inl (k_t_roots_least, 10007, .inl u1))] t.heap ∧ va_K (dC, dI) vwCl [(k_t_roots_least, .int)] t ∧ va_D (A) [(h0, .inr (3, [.ref h0_roots, .ref h0_strides, .ref h0_halvesFound])), (h0_roots, .inr (1, [.ref h0_roots_least, .int u0])), (h0_roots_least, .inl (k_t_roots_least, 10007, .inl u1))]) (A)) (([.ref h0, .int a0, .int a1] : List Value).toArray) s 0 0 A) (F0 m 37 ls [])) → ∀ (H : Heap) (locs : List Loc) (ls : Array Slot), va_P (dC, dI) vwCl [(h0, .inr (3, [.ref h0_roots, .ref h0_strides, .ref h0_halvesFound])), (h0_roots, .inr (1, [.ref h0_roots_least, .int x3])), (h0_roots_least, .inl (k_t_roots_least, 10007, .inl x4))] H → va_D A [(h0, .inr (3, [.ref h0_roots, .ref h0_strides, .ref h0_halvesFound])), (h0_roots, .inr (1, [.ref h0_roots_least, .int x3])), (h0_roots_least, .inl (k_t_roots_least, 10007, .inl x4))] → va_S A s.heap H locs → lv_has ls 5 [(3, .int x1), (4, .int x2), (0, .ref h0), (1, .int a0), (2, .int a1)] → W p l e (headSpec wsX3_manyWithoutA rmX3_manyWithoutA).room s m (([.ref h0, .int a0, .int a1] : List Value).toArray) below meth c H locs 0 0 (MQ below (va_Qi (fun (r : Int32) (u : Int32 × (Nat → Int32)) => (r, u) = rr) (fun (u : Int32 × (Nat → Int32)) t => match u with | (u0, u1) => va_P (dC, dI) vwCl [(h0, .inr (3, [.ref h0_roots, .ref h0_strides, .ref h0_halvesFound])), (h0_roots, .inr (1, [.ref h0_roots_least, .int u0])), (h0_roots_least, .inl (k_t_roots_least, 10007, .inl u1))] t.heap ∧ va_K (dC, dI) vwCl [(k_t_roots_least, .int)] t ∧ va_D (A) [(h0, .inr (3, [.ref h0_roots, .ref h0_strides, .ref h0_halvesFound])), (h0_roots, .inr (1, [.ref h0_roots_least, .int u0])), (h0_roots_least, .inl (k_t_roots_least, 10007, .inl u1))]) (A)) (([.ref h0, .int a0, .int a1] : List Value).toArray) s 0 0 A) (F0 m 5 ls []) := by
    intro n
    induction n with
    | zero => intro x1 x2 x3 x4 o h; exact absurd h (mi_run_0 _ _ _)
    | succ n ih =>
      intro x1 x2 x3 x4 o h hkE H locs ls hP hD hS hl
      obtain ⟨w, h, hA, hB⟩ := mi_run_s h
      dsimp only [mX3_manyWithoutA_b5] at h
      refine lv_iload hx hb dX3_manyWithoutA_5 (lv_at hl 1 rfl) ?_
      refine lv_iload_n hx hb dX3_manyWithoutA_7 rfl (lv_at hl 3 rfl) ?_
      refine lv_icmp_ge (tgt := 37) hx hb dX3_manyWithoutA_8 (by decide) (fun c9 => ?_) (fun c9 => ?_)
      · replace h := (if_pos c9).symm.trans h
        exact hkE _ _ _ _ (hB _ (Option.some.inj h).symm) _ _ ls hP hD hS (lv_sub hl [0, 1, 2, 3, 4] rfl)
      · replace h := (if_neg c9).symm.trans h
        refine lv_iload_n hx hb dX3_manyWithoutA_11 rfl (lv_at hl 0 rfl) ?_
        refine lv_aload_n hx hb dX3_manyWithoutA_12 rfl (lv_at hl 2 rfl) ?_
        refine lv_iload_n hx hb dX3_manyWithoutA_13 rfl (lv_at hl 3 rfl) ?_
        refine lv_iconst (v := 0) hx hb dX3_manyWithoutA_14 (by decide) ?_
        refine lv_iload hx hb dX3_manyWithoutA_15 (lv_at hl 1 rfl) ?_
        obtain ⟨r10, hr10, h⟩ := Option.bind_eq_some_iff.mp h
        have hPc := hP.sub (ws' := [(h0, .inr (3, [.ref h0_roots, .ref h0_strides, .ref h0_halvesFound])), (h0_roots, .inr (1, [.ref h0_roots_least, .int x3])), (h0_roots_least, .inl (k_t_roots_least, 10007, .inl x4))]) [0, 1, 2] rfl
        have hDc := hD.sub (ws' := [(h0, .inr (3, [.ref h0_roots, .ref h0_strides, .ref h0_halvesFound])), (h0_roots, .inr (1, [.ref h0_roots_least, .int x3])), (h0_roots_least, .inl (k_t_roots_least, 10007, .inl x4))]) [0, 1, 2] (by decide) rfl
        have hKc := hK.sub (tys' := [(k_t_roots_least, .int)]) [0] rfl
        have hFc := va_free (wc := [(h0, .inr (3, [.ref h0_roots, .ref h0_strides, .ref h0_halvesFound])), (h0_roots, .inr (1, [.ref h0_roots_least, .int x3])), (h0_roots_least, .inl (k_t_roots_least, 10007, .inl x4))]) hD hS hA0 [0, 1, 2] rfl
        refine va_calli (va_runV (As := [.int a0, .int 0, .int x2]) (rest := [.int x1]) ⟨hx, hb, hml, hown, hts⟩ (ctX3_manyPoints l N dC dI _ h0 h0_roots h0_roots_least h0_strides h0_halvesFound k_t_roots_least x3 x4 a0 0 x2 r10 hr10) (cwV 3 hts gX3_manyWithoutA_X3_manyPoints rfl rfl rfl (by decide +kernel) ⟨Nat.le_of_ble_eq_true rfl, Nat.le_of_ble_eq_true rfl⟩) ⟨fun a U g mk q => by obtain ⟨q0, q1, qP, qK, qN, qD⟩ := q; exact ⟨q0, q1, qP, va_K.moved (u := U) (U := U.calling g mk a) (Vm.Alike.refl U.vm) qK, nw_same (u := U) (U := U.calling g mk a) rfl qN, qD⟩, va_recv hKc hPc (ci := 3) (q0 := 0) rfl rfl, fun U hU hW => ⟨rfl, by rw [hU], by rw [hU]; exact hPc, va_K.moved hW.alike hKc, nw_warm hW hN, hDc.weaken (fun _ _ _ _ => trivial)⟩⟩ rfl rfl hl.1 rfl (lv_room (Nat.le_of_ble_eq_true rfl)) dX3_manyWithoutA_17 ⟨Nat.le_of_ble_eq_true rfl, Nat.le_of_ble_eq_true rfl⟩) hS (fun q _ h => hFc q h) hFc (fun rz u t H1 locs ht hvm hw hB1 hz1 hk1 hS => ?_)
        obtain ⟨u11, f12⟩ := u
        obtain ⟨hP1, hK1, hD1⟩ := hB1
        rw [ht] at hP1
        have hK1 := va_K.moved hvm.symm hK1
        obtain ⟨r13, rfl⟩ : ∃ z, z = rz := ⟨_, rfl⟩
        subst hw
        dsimp only at h
        obtain ⟨hP, hD⟩ := va_join (wr := []) (w1 := [(h0, .inr (3, [.ref h0_roots, .ref h0_strides, .ref h0_halvesFound])), (h0_roots, .inr (1, [.ref h0_roots_least, .int u11])), (h0_roots_least, .inl (k_t_roots_least, 10007, .inl f12))]) hP hD [0, 1, 2] [] rfl rfl (by decide) (by decide) hk1 hFc hP1 hD1
        generalize H1 = H at hP hS ⊢
        have hP := hP.sub (ws' := [(h0, .inr (3, [.ref h0_roots, .ref h0_strides, .ref h0_halvesFound])), (h0_roots, .inr (1, [.ref h0_roots_least, .int u11])), (h0_roots_least, .inl (k_t_roots_least, 10007, .inl f12))]) [0, 1, 2] rfl
        have hD := hD.sub (ws' := [(h0, .inr (3, [.ref h0_roots, .ref h0_strides, .ref h0_halvesFound])), (h0_roots, .inr (1, [.ref h0_roots_least, .int u11])), (h0_roots_least, .inl (k_t_roots_least, 10007, .inl f12))]) [0, 1, 2] (by decide) rfl
        refine lv_iload_n hx hb dX3_manyWithoutA_20 rfl (lv_at hl 4 rfl) ?_
        refine lv_icmp_ne (tgt := 28) hx hb dX3_manyWithoutA_21 (by decide) (fun c14 => ?_) (fun c14 => ?_)
        · replace h := (if_neg c14).symm.trans h
          refine lv_iconst (v := 0) hx hb dX3_manyWithoutA_28 (by decide) ?_
          refine lv_iadd hx hb dX3_manyWithoutA_29 ?_
          refine lv_topi (fun v15 ev15 => ?_)
          replace h := mi_use ev15 h
          refine lv_istore_n (lv' := [(3, .int v15), (4, .int x2), (0, .ref h0), (1, .int a0), (2, .int a1)]) hx hb dX3_manyWithoutA_30 rfl hl (by decide) rfl (fun ls hl => ?_)
          obtain ⟨v16, ev16⟩ : ∃ z : Int32, z = x2 + 1 := ⟨_, rfl⟩
          refine lv_iinc (v := v16) (lv' := [(4, .int v16), (3, .int v15), (0, .ref h0), (1, .int a0), (2, .int a1)]) hx hb dX3_manyWithoutA_31 hl (k := 1) rfl (by rw [ev16]; rfl) (by decide) rfl (fun ls hl => ?_)
          replace h := mi_use ev16 h
          refine lv_goto (tgt := 5) hx hb dX3_manyWithoutA_34 (by decide) ?_
          exact ih _ _ _ _ _ (hA _ (Option.some.inj h).symm) hkE _ _ ls hP hD hS (lv_sub hl [1, 0, 2, 3, 4] rfl)
        · replace h := (if_pos c14).symm.trans h
          refine lv_iconst (v := 1) hx hb dX3_manyWithoutA_24 (by decide) ?_
          refine lv_goto (tgt := 29) hx hb dX3_manyWithoutA_25 (by decide) ?_
          refine lv_iadd hx hb dX3_manyWithoutA_29 ?_
          refine lv_topi (fun v17 ev17 => ?_)
          replace h := mi_use ev17 h
          refine lv_istore_n (lv' := [(3, .int v17), (4, .int x2), (0, .ref h0), (1, .int a0), (2, .int a1)]) hx hb dX3_manyWithoutA_30 rfl hl (by decide) rfl (fun ls hl => ?_)
          obtain ⟨v18, ev18⟩ : ∃ z : Int32, z = x2 + 1 := ⟨_, rfl⟩
          refine lv_iinc (v := v18) (lv' := [(4, .int v18), (3, .int v17), (0, .ref h0), (1, .int a0), (2, .int a1)]) hx hb dX3_manyWithoutA_31 hl (k := 1) rfl (by rw [ev18]; rfl) (by decide) rfl (fun ls hl => ?_)
          replace h := mi_use ev18 h
          refine lv_goto (tgt := 5) hx hb dX3_manyWithoutA_34 (by decide) ?_
          exact ih _ _ _ _ _ (hA _ (Option.some.inj h).symm) hkE _ _ ls hP hD hS (lv_sub hl [1, 0, 2, 3, 4] rfl)
  obtain ⟨o19, ho19, h⟩ := Option.bind_eq_some_iff.mp h
  refine L5 N _ _ _ _ o19 ho19 ?_ _ _ ls hP hD hS (lv_sub hl [1, 0, 2, 3, 4] rfl)
  intro y5 y6 y7 y8 eo H locs ls hP hD hS hl
  subst eo
  dsimp only at h
  refine lv_iload_n hx hb dX3_manyWithoutA_37 rfl (lv_at hl 0 rfl) ?_
  have hv : (y5, y7, y8) = rr := Option.some.inj h
  have hP9 := hP.sub (ws' := [(h0, .inr (3, [.ref h0_roots, .ref h0_strides, .ref h0_halvesFound])), (h0_roots, .inr (1, [.ref h0_roots_least, .int y7])), (h0_roots_least, .inl (k_t_roots_least, 10007, .inl y8))]) [0, 1, 2] rfl
  have hD9 := hD.sub (ws' := [(h0, .inr (3, [.ref h0_roots, .ref h0_strides, .ref h0_halvesFound])), (h0_roots, .inr (1, [.ref h0_roots_least, .int y7])), (h0_roots_least, .inl (k_t_roots_least, 10007, .inl y8))]) [0, 1, 2] (by decide) rfl
  have hK9 := hK.sub (tys' := [(k_t_roots_least, .int)]) [0] rfl
  exact W.iret (v := y5) hx hb hr (fun t ht hW => ⟨⟨y5, (y7, y8), rfl, hv, by rw [ht]; exact hP9, va_K.moved hW.alike hK9, hD9⟩, hS.F ht⟩) hS.2.2 dX3_manyWithoutA_38
end
section
def mX3_manyWithoutB_b5 (N : Nat) (a0 : Int32) (a1 : Int32) (st : Int32 × Int32 × Int32 × (Nat → Int32)) : Option ((Int32 × Int32 × Int32 × (Nat → Int32)) ⊕ (Int32 × Int32 × Int32 × (Nat → Int32))) :=
  match st with
  | (x1, x2, x3, x4) => if a0 ≤ x2 then some (.inr (x1, x2, x3, x4)) else (mX3_manyPoints N x3 x4 a0 x2 0).bind (fun r10 => match r10 with | (r13, u11, f12) => if r13 = a1 then mi_let (x1 + 1) (fun v17 => mi_let (x2 + 1) (fun v18 => some (.inl (v17, v18, u11, f12)))) else mi_let (x1 + 0) (fun v15 => mi_let (x2 + 1) (fun v16 => some (.inl (v15, v16, u11, f12)))))
def mX3_manyWithoutB (N : Nat) (t_roots_prime : Int32) (t_roots_least : Nat → Int32) (a0 : Int32) (a1 : Int32) : Option (Int32 × Int32 × (Nat → Int32)) := (mi_run (mX3_manyWithoutB_b5 N a0 a1) N (0, 1, t_roots_prime, t_roots_least)).bind (fun o19 => match o19 with | (y5, y6, y7, y8) => some (y5, y7, y8))
abbrev rmX3_manyWithoutB : Room := { frames := 4, cells := 0, slots := 0, locals := 91 }
set_option maxHeartbeats 4000000 in
set_option maxRecDepth 100000 in
theorem ctX3_manyWithoutB (l : Launch) (N : Nat) (dC : Nat → ClassId) (dI : Nat → Nat → Nat) (sz : Nat) (h0 : Nat) (h0_roots : Nat) (h0_roots_least : Nat) (h0_strides : Nat) (h0_halvesFound : Nat) (k_t_roots_least : ClassId) (t_roots_prime : Int32) (t_roots_least : Nat → Int32) (a0 : Int32) (a1 : Int32) (rr : Int32 × Int32 × (Nat → Int32)) (h : mX3_manyWithoutB N t_roots_prime t_roots_least a0 a1 = some rr) : Met l yX3_manyWithoutB wsX3_manyWithoutB rmX3_manyWithoutB (va_Pc [.ref h0, .int a0, .int a1] (fun U => U.heap.size = sz ∧ va_P (dC, dI) vwCl [(h0, .inr (3, [.ref h0_roots, .ref h0_strides, .ref h0_halvesFound])), (h0_roots, .inr (1, [.ref h0_roots_least, .int t_roots_prime])), (h0_roots_least, .inl (k_t_roots_least, 10007, .inl t_roots_least))] U.heap ∧ va_K (dC, dI) vwCl [(k_t_roots_least, .int)] U ∧ nw_all U ∧ va_D (fun _ => True) [(h0, .inr (3, [.ref h0_roots, .ref h0_strides, .ref h0_halvesFound])), (h0_roots, .inr (1, [.ref h0_roots_least, .int t_roots_prime])), (h0_roots_least, .inl (k_t_roots_least, 10007, .inl t_roots_least))])) (va_Qi (fun (r : Int32) (u : Int32 × (Nat → Int32)) => (r, u) = rr) (fun (u : Int32 × (Nat → Int32)) t => match u with | (u0, u1) => va_P (dC, dI) vwCl [(h0, .inr (3, [.ref h0_roots, .ref h0_strides, .ref h0_halvesFound])), (h0_roots, .inr (1, [.ref h0_roots_least, .int u0])), (h0_roots_least, .inl (k_t_roots_least, 10007, .inl u1))] t.heap ∧ va_K (dC, dI) vwCl [(k_t_roots_least, .int)] t ∧ va_D (va_A [(h0, .inr (3, [.ref h0_roots, .ref h0_strides, .ref h0_halvesFound])), (h0_roots, .inr (1, [.ref h0_roots_least, .int t_roots_prime])), (h0_roots_least, .inl (k_t_roots_least, 10007, .inl t_roots_least))] sz) [(h0, .inr (3, [.ref h0_roots, .ref h0_strides, .ref h0_halvesFound])), (h0_roots, .inr (1, [.ref h0_roots_least, .int u0])), (h0_roots_least, .inl (k_t_roots_least, 10007, .inl u1))]) (va_A [(h0, .inr (3, [.ref h0_roots, .ref h0_strides, .ref h0_halvesFound])), (h0_roots, .inr (1, [.ref h0_roots_least, .int t_roots_prime])), (h0_roots_least, .inl (k_t_roots_least, 10007, .inl t_roots_least))] sz)) 0 0 (va_A [(h0, .inr (3, [.ref h0_roots, .ref h0_strides, .ref h0_halvesFound])), (h0_roots, .inr (1, [.ref h0_roots_least, .int t_roots_prime])), (h0_roots_least, .inl (k_t_roots_least, 10007, .inl t_roots_least))] sz) := by
  refine Met.ofW (cc := cX3_manyWithoutB) (maxL := 5) (ret := (some .int)) (by decide) rfl ?_
  intro p e s m args below meth c s₁ B hml hv
  obtain ⟨rfl, hsz, hP, hK, hN, hD0⟩ := hv
  have hx := B.exec
  have hb := B.bytes
  have hr := B.returns
  have hts := atoms_spec (ws := wsX3_manyWithoutB) B.pre
  have hown : s.vm.findClass RX3 = some m.cls := findClass_of_methodNamed B.named
  have hlocks := B.notSynchronized
  subst hsz
  have hD := hD0.self (sz := s.heap.size)
  generalize hAe : va_A [(h0, .inr (3, [.ref h0_roots, .ref h0_strides, .ref h0_halvesFound])), (h0_roots, .inr (1, [.ref h0_roots_least, .int t_roots_prime])), (h0_roots_least, .inl (k_t_roots_least, 10007, .inl t_roots_least))] s.heap.size = A at hD ⊢
  have hA0 : ∀ q : Nat, s.heap.size ≤ q → A q := fun q h => by rw [← hAe]; exact Or.inr h
  have hS : va_S A s.heap s.heap [] := va_S.rf
  have hP : va_P (dC, dI) vwCl [(h0, .inr (3, [.ref h0_roots, .ref h0_strides, .ref h0_halvesFound])), (h0_roots, .inr (1, [.ref h0_roots_least, .int t_roots_prime])), (h0_roots_least, .inl (k_t_roots_least, 10007, .inl t_roots_least))] s.heap := hP
  have hl := lv_entry ([.ref h0, .int a0, .int a1]) (n := 5) (Nat.le_of_ble_eq_true rfl)
  rw [lg_entry_eq]
  generalize (lg_sl ([.ref h0, .int a0, .int a1]) ++ List.replicate (5 - (lg_sl ([.ref h0, .int a0, .int a1])).length) Slot.unset).toArray = ls at hl ⊢
  have hl : lv_has ls 5 [(0, .ref h0), (1, .int a0), (2, .int a1)] := hl
  dsimp only [mX3_manyWithoutB] at h
  refine lv_iconst (v := 0) hx hb dX3_manyWithoutB_0 (by decide) ?_
  refine lv_istore_n (lv' := [(3, .int 0), (0, .ref h0), (1, .int a0), (2, .int a1)]) hx hb dX3_manyWithoutB_1 rfl hl (by decide) rfl (fun ls hl => ?_)
  refine lv_iconst (v := 1) hx hb dX3_manyWithoutB_2 (by decide) ?_
  refine lv_istore (lv' := [(4, .int 1), (3, .int 0), (0, .ref h0), (1, .int a0), (2, .int a1)]) hx hb dX3_manyWithoutB_3 hl (by decide) rfl (fun ls hl => ?_)
  have L5 : ∀ (n : Nat) (x1 : Int32) (x2 : Int32) (x3 : Int32) (x4 : Nat → Int32) (o : Int32 × Int32 × Int32 × (Nat → Int32)), mi_run (mX3_manyWithoutB_b5 N a0 a1) n (x1, x2, x3, x4) = some o → (∀ (y5 : Int32) (y6 : Int32) (y7 : Int32) (y8 : Nat → Int32), o = (y5, y6, y7, y8) → ∀ (H : Heap) (locs : List Loc) (ls : Array Slot), va_P (dC, dI) vwCl [(h0, .inr (3, [.ref h0_roots, .ref h0_strides, .ref h0_halvesFound])), (h0_roots, .inr (1, [.ref h0_roots_least, .int y7])), (h0_roots_least, .inl (k_t_roots_least, 10007, .inl y8))] H → va_D A [(h0, .inr (3, [.ref h0_roots, .ref h0_strides, .ref h0_halvesFound])), (h0_roots, .inr (1, [.ref h0_roots_least, .int y7])), (h0_roots_least, .inl (k_t_roots_least, 10007, .inl y8))] → va_S A s.heap H locs → lv_has ls 5 [(3, .int y5), (4, .int y6), (0, .ref h0), (1, .int a0), (2, .int a1)] → W p l e (headSpec wsX3_manyWithoutB rmX3_manyWithoutB).room s m (([.ref h0, .int a0, .int a1] : List Value).toArray) below meth c H locs 0 0 (MQ below (va_Qi (fun (r : Int32) (u : Int32 × (Nat → Int32)) => (r, u) = rr) (fun (u : Int32 × (Nat → Int32)) t => match u with | (u0, u1) => va_P (dC, dI) vwCl [(h0, .inr (3, [.ref h0_roots, .ref h0_strides, .ref h0_halvesFound])), (h0_roots, .inr (1, [.ref h0_roots_least, .int u0])), (h0_roots_least, .inl (k_t_roots_least, 10007, .inl u1))] t.heap ∧ va_K (dC, dI) vwCl [(k_t_roots_least, .int)] t ∧ va_D (A) [(h0, .inr (3, [.ref h0_roots, .ref h0_strides, .ref h0_halvesFound])), (h0_roots, .inr (1, [.ref h0_roots_least, .int u0])), (h0_roots_least, .inl (k_t_roots_least, 10007, .inl u1))]) (A)) (([.ref h0, .int a0, .int a1] : List Value).toArray) s 0 0 A) (F0 m 37 ls [])) → ∀ (H : Heap) (locs : List Loc) (ls : Array Slot), va_P (dC, dI) vwCl [(h0, .inr (3, [.ref h0_roots, .ref h0_strides, .ref h0_halvesFound])), (h0_roots, .inr (1, [.ref h0_roots_least, .int x3])), (h0_roots_least, .inl (k_t_roots_least, 10007, .inl x4))] H → va_D A [(h0, .inr (3, [.ref h0_roots, .ref h0_strides, .ref h0_halvesFound])), (h0_roots, .inr (1, [.ref h0_roots_least, .int x3])), (h0_roots_least, .inl (k_t_roots_least, 10007, .inl x4))] → va_S A s.heap H locs → lv_has ls 5 [(3, .int x1), (4, .int x2), (0, .ref h0), (1, .int a0), (2, .int a1)] → W p l e (headSpec wsX3_manyWithoutB rmX3_manyWithoutB).room s m (([.ref h0, .int a0, .int a1] : List Value).toArray) below meth c H locs 0 0 (MQ below (va_Qi (fun (r : Int32) (u : Int32 × (Nat → Int32)) => (r, u) = rr) (fun (u : Int32 × (Nat → Int32)) t => match u with | (u0, u1) => va_P (dC, dI) vwCl [(h0, .inr (3, [.ref h0_roots, .ref h0_strides, .ref h0_halvesFound])), (h0_roots, .inr (1, [.ref h0_roots_least, .int u0])), (h0_roots_least, .inl (k_t_roots_least, 10007, .inl u1))] t.heap ∧ va_K (dC, dI) vwCl [(k_t_roots_least, .int)] t ∧ va_D (A) [(h0, .inr (3, [.ref h0_roots, .ref h0_strides, .ref h0_halvesFound])), (h0_roots, .inr (1, [.ref h0_roots_least, .int u0])), (h0_roots_least, .inl (k_t_roots_least, 10007, .inl u1))]) (A)) (([.ref h0, .int a0, .int a1] : List Value).toArray) s 0 0 A) (F0 m 5 ls []) := by
    intro n
    induction n with
    | zero => intro x1 x2 x3 x4 o h; exact absurd h (mi_run_0 _ _ _)
    | succ n ih =>
      intro x1 x2 x3 x4 o h hkE H locs ls hP hD hS hl
      obtain ⟨w, h, hA, hB⟩ := mi_run_s h
      dsimp only [mX3_manyWithoutB_b5] at h
      refine lv_iload hx hb dX3_manyWithoutB_5 (lv_at hl 1 rfl) ?_
      refine lv_iload_n hx hb dX3_manyWithoutB_7 rfl (lv_at hl 3 rfl) ?_
      refine lv_icmp_ge (tgt := 37) hx hb dX3_manyWithoutB_8 (by decide) (fun c9 => ?_) (fun c9 => ?_)
      · replace h := (if_pos c9).symm.trans h
        exact hkE _ _ _ _ (hB _ (Option.some.inj h).symm) _ _ ls hP hD hS (lv_sub hl [0, 1, 2, 3, 4] rfl)
      · replace h := (if_neg c9).symm.trans h
        refine lv_iload_n hx hb dX3_manyWithoutB_11 rfl (lv_at hl 0 rfl) ?_
        refine lv_aload_n hx hb dX3_manyWithoutB_12 rfl (lv_at hl 2 rfl) ?_
        refine lv_iload_n hx hb dX3_manyWithoutB_13 rfl (lv_at hl 3 rfl) ?_
        refine lv_iload hx hb dX3_manyWithoutB_14 (lv_at hl 1 rfl) ?_
        refine lv_iconst (v := 0) hx hb dX3_manyWithoutB_16 (by decide) ?_
        obtain ⟨r10, hr10, h⟩ := Option.bind_eq_some_iff.mp h
        have hPc := hP.sub (ws' := [(h0, .inr (3, [.ref h0_roots, .ref h0_strides, .ref h0_halvesFound])), (h0_roots, .inr (1, [.ref h0_roots_least, .int x3])), (h0_roots_least, .inl (k_t_roots_least, 10007, .inl x4))]) [0, 1, 2] rfl
        have hDc := hD.sub (ws' := [(h0, .inr (3, [.ref h0_roots, .ref h0_strides, .ref h0_halvesFound])), (h0_roots, .inr (1, [.ref h0_roots_least, .int x3])), (h0_roots_least, .inl (k_t_roots_least, 10007, .inl x4))]) [0, 1, 2] (by decide) rfl
        have hKc := hK.sub (tys' := [(k_t_roots_least, .int)]) [0] rfl
        have hFc := va_free (wc := [(h0, .inr (3, [.ref h0_roots, .ref h0_strides, .ref h0_halvesFound])), (h0_roots, .inr (1, [.ref h0_roots_least, .int x3])), (h0_roots_least, .inl (k_t_roots_least, 10007, .inl x4))]) hD hS hA0 [0, 1, 2] rfl
        refine va_calli (va_runV (As := [.int a0, .int x2, .int 0]) (rest := [.int x1]) ⟨hx, hb, hml, hown, hts⟩ (ctX3_manyPoints l N dC dI _ h0 h0_roots h0_roots_least h0_strides h0_halvesFound k_t_roots_least x3 x4 a0 x2 0 r10 hr10) (cwV 3 hts gX3_manyWithoutB_X3_manyPoints rfl rfl rfl (by decide +kernel) ⟨Nat.le_of_ble_eq_true rfl, Nat.le_of_ble_eq_true rfl⟩) ⟨fun a U g mk q => by obtain ⟨q0, q1, qP, qK, qN, qD⟩ := q; exact ⟨q0, q1, qP, va_K.moved (u := U) (U := U.calling g mk a) (Vm.Alike.refl U.vm) qK, nw_same (u := U) (U := U.calling g mk a) rfl qN, qD⟩, va_recv hKc hPc (ci := 3) (q0 := 0) rfl rfl, fun U hU hW => ⟨rfl, by rw [hU], by rw [hU]; exact hPc, va_K.moved hW.alike hKc, nw_warm hW hN, hDc.weaken (fun _ _ _ _ => trivial)⟩⟩ rfl rfl hl.1 rfl (lv_room (Nat.le_of_ble_eq_true rfl)) dX3_manyWithoutB_17 ⟨Nat.le_of_ble_eq_true rfl, Nat.le_of_ble_eq_true rfl⟩) hS (fun q _ h => hFc q h) hFc (fun rz u t H1 locs ht hvm hw hB1 hz1 hk1 hS => ?_)
        obtain ⟨u11, f12⟩ := u
        obtain ⟨hP1, hK1, hD1⟩ := hB1
        rw [ht] at hP1
        have hK1 := va_K.moved hvm.symm hK1
        obtain ⟨r13, rfl⟩ : ∃ z, z = rz := ⟨_, rfl⟩
        subst hw
        dsimp only at h
        obtain ⟨hP, hD⟩ := va_join (wr := []) (w1 := [(h0, .inr (3, [.ref h0_roots, .ref h0_strides, .ref h0_halvesFound])), (h0_roots, .inr (1, [.ref h0_roots_least, .int u11])), (h0_roots_least, .inl (k_t_roots_least, 10007, .inl f12))]) hP hD [0, 1, 2] [] rfl rfl (by decide) (by decide) hk1 hFc hP1 hD1
        generalize H1 = H at hP hS ⊢
        have hP := hP.sub (ws' := [(h0, .inr (3, [.ref h0_roots, .ref h0_strides, .ref h0_halvesFound])), (h0_roots, .inr (1, [.ref h0_roots_least, .int u11])), (h0_roots_least, .inl (k_t_roots_least, 10007, .inl f12))]) [0, 1, 2] rfl
        have hD := hD.sub (ws' := [(h0, .inr (3, [.ref h0_roots, .ref h0_strides, .ref h0_halvesFound])), (h0_roots, .inr (1, [.ref h0_roots_least, .int u11])), (h0_roots_least, .inl (k_t_roots_least, 10007, .inl f12))]) [0, 1, 2] (by decide) rfl
        refine lv_iload_n hx hb dX3_manyWithoutB_20 rfl (lv_at hl 4 rfl) ?_
        refine lv_icmp_ne (tgt := 28) hx hb dX3_manyWithoutB_21 (by decide) (fun c14 => ?_) (fun c14 => ?_)
        · replace h := (if_neg c14).symm.trans h
          refine lv_iconst (v := 0) hx hb dX3_manyWithoutB_28 (by decide) ?_
          refine lv_iadd hx hb dX3_manyWithoutB_29 ?_
          refine lv_topi (fun v15 ev15 => ?_)
          replace h := mi_use ev15 h
          refine lv_istore_n (lv' := [(3, .int v15), (4, .int x2), (0, .ref h0), (1, .int a0), (2, .int a1)]) hx hb dX3_manyWithoutB_30 rfl hl (by decide) rfl (fun ls hl => ?_)
          obtain ⟨v16, ev16⟩ : ∃ z : Int32, z = x2 + 1 := ⟨_, rfl⟩
          refine lv_iinc (v := v16) (lv' := [(4, .int v16), (3, .int v15), (0, .ref h0), (1, .int a0), (2, .int a1)]) hx hb dX3_manyWithoutB_31 hl (k := 1) rfl (by rw [ev16]; rfl) (by decide) rfl (fun ls hl => ?_)
          replace h := mi_use ev16 h
          refine lv_goto (tgt := 5) hx hb dX3_manyWithoutB_34 (by decide) ?_
          exact ih _ _ _ _ _ (hA _ (Option.some.inj h).symm) hkE _ _ ls hP hD hS (lv_sub hl [1, 0, 2, 3, 4] rfl)
        · replace h := (if_pos c14).symm.trans h
          refine lv_iconst (v := 1) hx hb dX3_manyWithoutB_24 (by decide) ?_
          refine lv_goto (tgt := 29) hx hb dX3_manyWithoutB_25 (by decide) ?_
          refine lv_iadd hx hb dX3_manyWithoutB_29 ?_
          refine lv_topi (fun v17 ev17 => ?_)
          replace h := mi_use ev17 h
          refine lv_istore_n (lv' := [(3, .int v17), (4, .int x2), (0, .ref h0), (1, .int a0), (2, .int a1)]) hx hb dX3_manyWithoutB_30 rfl hl (by decide) rfl (fun ls hl => ?_)
          obtain ⟨v18, ev18⟩ : ∃ z : Int32, z = x2 + 1 := ⟨_, rfl⟩
          refine lv_iinc (v := v18) (lv' := [(4, .int v18), (3, .int v17), (0, .ref h0), (1, .int a0), (2, .int a1)]) hx hb dX3_manyWithoutB_31 hl (k := 1) rfl (by rw [ev18]; rfl) (by decide) rfl (fun ls hl => ?_)
          replace h := mi_use ev18 h
          refine lv_goto (tgt := 5) hx hb dX3_manyWithoutB_34 (by decide) ?_
          exact ih _ _ _ _ _ (hA _ (Option.some.inj h).symm) hkE _ _ ls hP hD hS (lv_sub hl [1, 0, 2, 3, 4] rfl)
  obtain ⟨o19, ho19, h⟩ := Option.bind_eq_some_iff.mp h
  refine L5 N _ _ _ _ o19 ho19 ?_ _ _ ls hP hD hS (lv_sub hl [1, 0, 2, 3, 4] rfl)
  intro y5 y6 y7 y8 eo H locs ls hP hD hS hl
  subst eo
  dsimp only at h
  refine lv_iload_n hx hb dX3_manyWithoutB_37 rfl (lv_at hl 0 rfl) ?_
  have hv : (y5, y7, y8) = rr := Option.some.inj h
  have hP9 := hP.sub (ws' := [(h0, .inr (3, [.ref h0_roots, .ref h0_strides, .ref h0_halvesFound])), (h0_roots, .inr (1, [.ref h0_roots_least, .int y7])), (h0_roots_least, .inl (k_t_roots_least, 10007, .inl y8))]) [0, 1, 2] rfl
  have hD9 := hD.sub (ws' := [(h0, .inr (3, [.ref h0_roots, .ref h0_strides, .ref h0_halvesFound])), (h0_roots, .inr (1, [.ref h0_roots_least, .int y7])), (h0_roots_least, .inl (k_t_roots_least, 10007, .inl y8))]) [0, 1, 2] (by decide) rfl
  have hK9 := hK.sub (tys' := [(k_t_roots_least, .int)]) [0] rfl
  exact W.iret (v := y5) hx hb hr (fun t ht hW => ⟨⟨y5, (y7, y8), rfl, hv, by rw [ht]; exact hP9, va_K.moved hW.alike hK9, hD9⟩, hS.F ht⟩) hS.2.2 dX3_manyWithoutB_38
end
section
def mX3_pairsWith_b17 (N : Nat) (a0 : Int32) (a1 : Int32) (st : Int32 × Int32 × Int32 × (Nat → Int32)) : Option ((Int32 × Int32 × Int32 × (Nat → Int32)) ⊕ (Int32 × Int32 × Int32 × (Nat → Int32))) :=
  match st with
  | (x10, x11, x12, x13) => if (a0 - 1) ≤ x11 then some (.inr (x10, x11, x12, x13)) else if a0 = 0 then none else mi_let (mi_rem (3 * x11) a0) (fun v20 => if a0 = 0 then none else mi_let (mi_rem (2 * x11) a0) (fun v22 => (mX3_manyPoints N x12 x13 a0 v20 v22).bind (fun r23 => match r23 with | (r26, u24, f25) => if r26 = a1 then mi_let ((a0 - 1) / 2) (fun v35 => mi_let (x10 + v35) (fun v36 => if (((2 * a0) + 2) - r26) = a1 then mi_let ((a0 - 1) / 2) (fun v40 => mi_let (v36 + v40) (fun v41 => mi_let (x11 + 1) (fun v42 => some (.inl (v41, v42, u24, f25))))) else mi_let (v36 + 0) (fun v38 => mi_let (x11 + 1) (fun v39 => some (.inl (v38, v39, u24, f25)))))) else mi_let (x10 + 0) (fun v28 => if (((2 * a0) + 2) - r26) = a1 then mi_let ((a0 - 1) / 2) (fun v32 => mi_let (v28 + v32) (fun v33 => mi_let (x11 + 1) (fun v34 => some (.inl (v33, v34, u24, f25))))) else mi_let (v28 + 0) (fun v30 => mi_let (x11 + 1) (fun v31 => some (.inl (v30, v31, u24, f25))))))))
def mX3_pairsWith (N : Nat) (t_roots_prime : Int32) (t_roots_least : Nat → Int32) (a0 : Int32) (a1 : Int32) : Option (Int32 × Int32 × (Nat → Int32)) := (mX3_manyWithoutA N t_roots_prime t_roots_least a0 a1).bind (fun r1 => match r1 with | (r4, u2, f3) => (mX3_manyWithoutB N u2 f3 a0 a1).bind (fun r5 => match r5 with | (r8, u6, f7) => mi_let (r4 + r8) (fun v9 => (mi_run (mX3_pairsWith_b17 N a0 a1) N (v9, 1, u6, f7)).bind (fun o43 => match o43 with | (y14, y15, y16, y17) => some (y14, y16, y17)))))
abbrev rmX3_pairsWith : Room := { frames := 5, cells := 0, slots := 0, locals := 115 }
set_option maxHeartbeats 4000000 in
set_option maxRecDepth 100000 in
theorem ctX3_pairsWith (l : Launch) (N : Nat) (dC : Nat → ClassId) (dI : Nat → Nat → Nat) (sz : Nat) (h0 : Nat) (h0_roots : Nat) (h0_roots_least : Nat) (h0_strides : Nat) (h0_halvesFound : Nat) (k_t_roots_least : ClassId) (t_roots_prime : Int32) (t_roots_least : Nat → Int32) (a0 : Int32) (a1 : Int32) (rr : Int32 × Int32 × (Nat → Int32)) (h : mX3_pairsWith N t_roots_prime t_roots_least a0 a1 = some rr) : Met l yX3_pairsWith wsX3_pairsWith rmX3_pairsWith (va_Pc [.ref h0, .int a0, .int a1] (fun U => U.heap.size = sz ∧ va_P (dC, dI) vwCl [(h0, .inr (3, [.ref h0_roots, .ref h0_strides, .ref h0_halvesFound])), (h0_roots, .inr (1, [.ref h0_roots_least, .int t_roots_prime])), (h0_roots_least, .inl (k_t_roots_least, 10007, .inl t_roots_least))] U.heap ∧ va_K (dC, dI) vwCl [(k_t_roots_least, .int)] U ∧ nw_all U ∧ va_D (fun _ => True) [(h0, .inr (3, [.ref h0_roots, .ref h0_strides, .ref h0_halvesFound])), (h0_roots, .inr (1, [.ref h0_roots_least, .int t_roots_prime])), (h0_roots_least, .inl (k_t_roots_least, 10007, .inl t_roots_least))])) (va_Qi (fun (r : Int32) (u : Int32 × (Nat → Int32)) => (r, u) = rr) (fun (u : Int32 × (Nat → Int32)) t => match u with | (u0, u1) => va_P (dC, dI) vwCl [(h0, .inr (3, [.ref h0_roots, .ref h0_strides, .ref h0_halvesFound])), (h0_roots, .inr (1, [.ref h0_roots_least, .int u0])), (h0_roots_least, .inl (k_t_roots_least, 10007, .inl u1))] t.heap ∧ va_K (dC, dI) vwCl [(k_t_roots_least, .int)] t ∧ va_D (va_A [(h0, .inr (3, [.ref h0_roots, .ref h0_strides, .ref h0_halvesFound])), (h0_roots, .inr (1, [.ref h0_roots_least, .int t_roots_prime])), (h0_roots_least, .inl (k_t_roots_least, 10007, .inl t_roots_least))] sz) [(h0, .inr (3, [.ref h0_roots, .ref h0_strides, .ref h0_halvesFound])), (h0_roots, .inr (1, [.ref h0_roots_least, .int u0])), (h0_roots_least, .inl (k_t_roots_least, 10007, .inl u1))]) (va_A [(h0, .inr (3, [.ref h0_roots, .ref h0_strides, .ref h0_halvesFound])), (h0_roots, .inr (1, [.ref h0_roots_least, .int t_roots_prime])), (h0_roots_least, .inl (k_t_roots_least, 10007, .inl t_roots_least))] sz)) 0 0 (va_A [(h0, .inr (3, [.ref h0_roots, .ref h0_strides, .ref h0_halvesFound])), (h0_roots, .inr (1, [.ref h0_roots_least, .int t_roots_prime])), (h0_roots_least, .inl (k_t_roots_least, 10007, .inl t_roots_least))] sz) := by
  refine Met.ofW (cc := cX3_pairsWith) (maxL := 6) (ret := (some .int)) (by decide) rfl ?_
  intro p e s m args below meth c s₁ B hml hv
  obtain ⟨rfl, hsz, hP, hK, hN, hD0⟩ := hv
  have hx := B.exec
  have hb := B.bytes
  have hr := B.returns
  have hts := atoms_spec (ws := wsX3_pairsWith) B.pre
  have hown : s.vm.findClass RX3 = some m.cls := findClass_of_methodNamed B.named
  have hlocks := B.notSynchronized
  subst hsz
  have hD := hD0.self (sz := s.heap.size)
  generalize hAe : va_A [(h0, .inr (3, [.ref h0_roots, .ref h0_strides, .ref h0_halvesFound])), (h0_roots, .inr (1, [.ref h0_roots_least, .int t_roots_prime])), (h0_roots_least, .inl (k_t_roots_least, 10007, .inl t_roots_least))] s.heap.size = A at hD ⊢
  have hA0 : ∀ q : Nat, s.heap.size ≤ q → A q := fun q h => by rw [← hAe]; exact Or.inr h
  have hS : va_S A s.heap s.heap [] := va_S.rf
  have hP : va_P (dC, dI) vwCl [(h0, .inr (3, [.ref h0_roots, .ref h0_strides, .ref h0_halvesFound])), (h0_roots, .inr (1, [.ref h0_roots_least, .int t_roots_prime])), (h0_roots_least, .inl (k_t_roots_least, 10007, .inl t_roots_least))] s.heap := hP
  have hl := lv_entry ([.ref h0, .int a0, .int a1]) (n := 6) (Nat.le_of_ble_eq_true rfl)
  rw [lg_entry_eq]
  generalize (lg_sl ([.ref h0, .int a0, .int a1]) ++ List.replicate (6 - (lg_sl ([.ref h0, .int a0, .int a1])).length) Slot.unset).toArray = ls at hl ⊢
  have hl : lv_has ls 6 [(0, .ref h0), (1, .int a0), (2, .int a1)] := hl
  dsimp only [mX3_pairsWith] at h
  refine lv_aload_n hx hb dX3_pairsWith_0 rfl (lv_at hl 0 rfl) ?_
  refine lv_iload_n hx hb dX3_pairsWith_1 rfl (lv_at hl 1 rfl) ?_
  refine lv_iload_n hx hb dX3_pairsWith_2 rfl (lv_at hl 2 rfl) ?_
  obtain ⟨r1, hr1, h⟩ := Option.bind_eq_some_iff.mp h
  have hPc := hP.sub (ws' := [(h0, .inr (3, [.ref h0_roots, .ref h0_strides, .ref h0_halvesFound])), (h0_roots, .inr (1, [.ref h0_roots_least, .int t_roots_prime])), (h0_roots_least, .inl (k_t_roots_least, 10007, .inl t_roots_least))]) [0, 1, 2] rfl
  have hDc := hD.sub (ws' := [(h0, .inr (3, [.ref h0_roots, .ref h0_strides, .ref h0_halvesFound])), (h0_roots, .inr (1, [.ref h0_roots_least, .int t_roots_prime])), (h0_roots_least, .inl (k_t_roots_least, 10007, .inl t_roots_least))]) [0, 1, 2] (by decide) rfl
  have hKc := hK.sub (tys' := [(k_t_roots_least, .int)]) [0] rfl
  have hFc := va_free (wc := [(h0, .inr (3, [.ref h0_roots, .ref h0_strides, .ref h0_halvesFound])), (h0_roots, .inr (1, [.ref h0_roots_least, .int t_roots_prime])), (h0_roots_least, .inl (k_t_roots_least, 10007, .inl t_roots_least))]) hD hS hA0 [0, 1, 2] rfl
  refine va_calli (va_runV (As := [.int a0, .int a1]) (rest := []) ⟨hx, hb, hml, hown, hts⟩ (ctX3_manyWithoutA l N dC dI _ h0 h0_roots h0_roots_least h0_strides h0_halvesFound k_t_roots_least t_roots_prime t_roots_least a0 a1 r1 hr1) (cwV 2 hts gX3_pairsWith_X3_manyWithoutA rfl rfl rfl (by decide +kernel) ⟨Nat.le_of_ble_eq_true rfl, Nat.le_of_ble_eq_true rfl⟩) ⟨fun a U g mk q => by obtain ⟨q0, q1, qP, qK, qN, qD⟩ := q; exact ⟨q0, q1, qP, va_K.moved (u := U) (U := U.calling g mk a) (Vm.Alike.refl U.vm) qK, nw_same (u := U) (U := U.calling g mk a) rfl qN, qD⟩, va_recv hKc hPc (ci := 3) (q0 := 0) rfl rfl, fun U hU hW => ⟨rfl, by rw [hU], by rw [hU]; exact hPc, va_K.moved hW.alike hKc, nw_warm hW hN, hDc.weaken (fun _ _ _ _ => trivial)⟩⟩ rfl rfl hl.1 rfl (lv_room (Nat.le_of_ble_eq_true rfl)) dX3_pairsWith_3 ⟨Nat.le_of_ble_eq_true rfl, Nat.le_of_ble_eq_true rfl⟩) hS (fun q _ h => hFc q h) hFc (fun rz u t H1 locs ht hvm hw hB1 hz1 hk1 hS => ?_)
  obtain ⟨u2, f3⟩ := u
  obtain ⟨hP1, hK1, hD1⟩ := hB1
  rw [ht] at hP1
  have hK1 := va_K.moved hvm.symm hK1
  obtain ⟨r4, rfl⟩ : ∃ z, z = rz := ⟨_, rfl⟩
  subst hw
  dsimp only at h
  obtain ⟨hP, hD⟩ := va_join (wr := []) (w1 := [(h0, .inr (3, [.ref h0_roots, .ref h0_strides, .ref h0_halvesFound])), (h0_roots, .inr (1, [.ref h0_roots_least, .int u2])), (h0_roots_least, .inl (k_t_roots_least, 10007, .inl f3))]) hP hD [0, 1, 2] [] rfl rfl (by decide) (by decide) hk1 hFc hP1 hD1
  generalize H1 = H at hP hS ⊢
  have hP := hP.sub (ws' := [(h0, .inr (3, [.ref h0_roots, .ref h0_strides, .ref h0_halvesFound])), (h0_roots, .inr (1, [.ref h0_roots_least, .int u2])), (h0_roots_least, .inl (k_t_roots_least, 10007, .inl f3))]) [0, 1, 2] rfl
  have hD := hD.sub (ws' := [(h0, .inr (3, [.ref h0_roots, .ref h0_strides, .ref h0_halvesFound])), (h0_roots, .inr (1, [.ref h0_roots_least, .int u2])), (h0_roots_least, .inl (k_t_roots_least, 10007, .inl f3))]) [0, 1, 2] (by decide) rfl
  refine lv_aload_n hx hb dX3_pairsWith_6 rfl (lv_at hl 0 rfl) ?_
  refine lv_iload_n hx hb dX3_pairsWith_7 rfl (lv_at hl 1 rfl) ?_
  refine lv_iload_n hx hb dX3_pairsWith_8 rfl (lv_at hl 2 rfl) ?_
  obtain ⟨r5, hr5, h⟩ := Option.bind_eq_some_iff.mp h
  have hPc := hP.sub (ws' := [(h0, .inr (3, [.ref h0_roots, .ref h0_strides, .ref h0_halvesFound])), (h0_roots, .inr (1, [.ref h0_roots_least, .int u2])), (h0_roots_least, .inl (k_t_roots_least, 10007, .inl f3))]) [0, 1, 2] rfl
  have hDc := hD.sub (ws' := [(h0, .inr (3, [.ref h0_roots, .ref h0_strides, .ref h0_halvesFound])), (h0_roots, .inr (1, [.ref h0_roots_least, .int u2])), (h0_roots_least, .inl (k_t_roots_least, 10007, .inl f3))]) [0, 1, 2] (by decide) rfl
  have hKc := hK.sub (tys' := [(k_t_roots_least, .int)]) [0] rfl
  have hFc := va_free (wc := [(h0, .inr (3, [.ref h0_roots, .ref h0_strides, .ref h0_halvesFound])), (h0_roots, .inr (1, [.ref h0_roots_least, .int u2])), (h0_roots_least, .inl (k_t_roots_least, 10007, .inl f3))]) hD hS hA0 [0, 1, 2] rfl
  refine va_calli (va_runV (As := [.int a0, .int a1]) (rest := [.int r4]) ⟨hx, hb, hml, hown, hts⟩ (ctX3_manyWithoutB l N dC dI _ h0 h0_roots h0_roots_least h0_strides h0_halvesFound k_t_roots_least u2 f3 a0 a1 r5 hr5) (cwV 2 hts gX3_pairsWith_X3_manyWithoutB rfl rfl rfl (by decide +kernel) ⟨Nat.le_of_ble_eq_true rfl, Nat.le_of_ble_eq_true rfl⟩) ⟨fun a U g mk q => by obtain ⟨q0, q1, qP, qK, qN, qD⟩ := q; exact ⟨q0, q1, qP, va_K.moved (u := U) (U := U.calling g mk a) (Vm.Alike.refl U.vm) qK, nw_same (u := U) (U := U.calling g mk a) rfl qN, qD⟩, va_recv hKc hPc (ci := 3) (q0 := 0) rfl rfl, fun U hU hW => ⟨rfl, by rw [hU], by rw [hU]; exact hPc, va_K.moved hW.alike hKc, nw_warm hW hN, hDc.weaken (fun _ _ _ _ => trivial)⟩⟩ rfl rfl hl.1 rfl (lv_room (Nat.le_of_ble_eq_true rfl)) dX3_pairsWith_9 ⟨Nat.le_of_ble_eq_true rfl, Nat.le_of_ble_eq_true rfl⟩) hS (fun q _ h => hFc q h) hFc (fun rz u t H1 locs ht hvm hw hB1 hz1 hk1 hS => ?_)
  obtain ⟨u6, f7⟩ := u
  obtain ⟨hP1, hK1, hD1⟩ := hB1
  rw [ht] at hP1
  have hK1 := va_K.moved hvm.symm hK1
  obtain ⟨r8, rfl⟩ : ∃ z, z = rz := ⟨_, rfl⟩
  subst hw
  dsimp only at h
  obtain ⟨hP, hD⟩ := va_join (wr := []) (w1 := [(h0, .inr (3, [.ref h0_roots, .ref h0_strides, .ref h0_halvesFound])), (h0_roots, .inr (1, [.ref h0_roots_least, .int u6])), (h0_roots_least, .inl (k_t_roots_least, 10007, .inl f7))]) hP hD [0, 1, 2] [] rfl rfl (by decide) (by decide) hk1 hFc hP1 hD1
  generalize H1 = H at hP hS ⊢
  have hP := hP.sub (ws' := [(h0, .inr (3, [.ref h0_roots, .ref h0_strides, .ref h0_halvesFound])), (h0_roots, .inr (1, [.ref h0_roots_least, .int u6])), (h0_roots_least, .inl (k_t_roots_least, 10007, .inl f7))]) [0, 1, 2] rfl
  have hD := hD.sub (ws' := [(h0, .inr (3, [.ref h0_roots, .ref h0_strides, .ref h0_halvesFound])), (h0_roots, .inr (1, [.ref h0_roots_least, .int u6])), (h0_roots_least, .inl (k_t_roots_least, 10007, .inl f7))]) [0, 1, 2] (by decide) rfl
  refine lv_iadd hx hb dX3_pairsWith_12 ?_
  refine lv_topi (fun v9 ev9 => ?_)
  replace h := mi_use ev9 h
  refine lv_istore_n (lv' := [(3, .int v9), (0, .ref h0), (1, .int a0), (2, .int a1)]) hx hb dX3_pairsWith_13 rfl hl (by decide) rfl (fun ls hl => ?_)
  refine lv_iconst (v := 1) hx hb dX3_pairsWith_14 (by decide) ?_
  refine lv_istore (lv' := [(4, .int 1), (3, .int v9), (0, .ref h0), (1, .int a0), (2, .int a1)]) hx hb dX3_pairsWith_15 hl (by decide) rfl (fun ls hl => ?_)
  have L17 : ∀ (n : Nat) (x10 : Int32) (x11 : Int32) (x12 : Int32) (x13 : Nat → Int32) (o : Int32 × Int32 × Int32 × (Nat → Int32)), mi_run (mX3_pairsWith_b17 N a0 a1) n (x10, x11, x12, x13) = some o → (∀ (y14 : Int32) (y15 : Int32) (y16 : Int32) (y17 : Nat → Int32), o = (y14, y15, y16, y17) → ∀ (H : Heap) (locs : List Loc) (ls : Array Slot), va_P (dC, dI) vwCl [(h0, .inr (3, [.ref h0_roots, .ref h0_strides, .ref h0_halvesFound])), (h0_roots, .inr (1, [.ref h0_roots_least, .int y16])), (h0_roots_least, .inl (k_t_roots_least, 10007, .inl y17))] H → va_D A [(h0, .inr (3, [.ref h0_roots, .ref h0_strides, .ref h0_halvesFound])), (h0_roots, .inr (1, [.ref h0_roots_least, .int y16])), (h0_roots_least, .inl (k_t_roots_least, 10007, .inl y17))] → va_S A s.heap H locs → lv_has ls 6 [(3, .int y14), (4, .int y15), (0, .ref h0), (1, .int a0), (2, .int a1)] → W p l e (headSpec wsX3_pairsWith rmX3_pairsWith).room s m (([.ref h0, .int a0, .int a1] : List Value).toArray) below meth c H locs 0 0 (MQ below (va_Qi (fun (r : Int32) (u : Int32 × (Nat → Int32)) => (r, u) = rr) (fun (u : Int32 × (Nat → Int32)) t => match u with | (u0, u1) => va_P (dC, dI) vwCl [(h0, .inr (3, [.ref h0_roots, .ref h0_strides, .ref h0_halvesFound])), (h0_roots, .inr (1, [.ref h0_roots_least, .int u0])), (h0_roots_least, .inl (k_t_roots_least, 10007, .inl u1))] t.heap ∧ va_K (dC, dI) vwCl [(k_t_roots_least, .int)] t ∧ va_D (A) [(h0, .inr (3, [.ref h0_roots, .ref h0_strides, .ref h0_halvesFound])), (h0_roots, .inr (1, [.ref h0_roots_least, .int u0])), (h0_roots_least, .inl (k_t_roots_least, 10007, .inl u1))]) (A)) (([.ref h0, .int a0, .int a1] : List Value).toArray) s 0 0 A) (F0 m 92 ls [])) → ∀ (H : Heap) (locs : List Loc) (ls : Array Slot), va_P (dC, dI) vwCl [(h0, .inr (3, [.ref h0_roots, .ref h0_strides, .ref h0_halvesFound])), (h0_roots, .inr (1, [.ref h0_roots_least, .int x12])), (h0_roots_least, .inl (k_t_roots_least, 10007, .inl x13))] H → va_D A [(h0, .inr (3, [.ref h0_roots, .ref h0_strides, .ref h0_halvesFound])), (h0_roots, .inr (1, [.ref h0_roots_least, .int x12])), (h0_roots_least, .inl (k_t_roots_least, 10007, .inl x13))] → va_S A s.heap H locs → lv_has ls 6 [(3, .int x10), (4, .int x11), (0, .ref h0), (1, .int a0), (2, .int a1)] → W p l e (headSpec wsX3_pairsWith rmX3_pairsWith).room s m (([.ref h0, .int a0, .int a1] : List Value).toArray) below meth c H locs 0 0 (MQ below (va_Qi (fun (r : Int32) (u : Int32 × (Nat → Int32)) => (r, u) = rr) (fun (u : Int32 × (Nat → Int32)) t => match u with | (u0, u1) => va_P (dC, dI) vwCl [(h0, .inr (3, [.ref h0_roots, .ref h0_strides, .ref h0_halvesFound])), (h0_roots, .inr (1, [.ref h0_roots_least, .int u0])), (h0_roots_least, .inl (k_t_roots_least, 10007, .inl u1))] t.heap ∧ va_K (dC, dI) vwCl [(k_t_roots_least, .int)] t ∧ va_D (A) [(h0, .inr (3, [.ref h0_roots, .ref h0_strides, .ref h0_halvesFound])), (h0_roots, .inr (1, [.ref h0_roots_least, .int u0])), (h0_roots_least, .inl (k_t_roots_least, 10007, .inl u1))]) (A)) (([.ref h0, .int a0, .int a1] : List Value).toArray) s 0 0 A) (F0 m 17 ls []) := by
    intro n
    induction n with
    | zero => intro x10 x11 x12 x13 o h; exact absurd h (mi_run_0 _ _ _)
    | succ n ih =>
      intro x10 x11 x12 x13 o h hkE H locs ls hP hD hS hl
      obtain ⟨w, h, hA, hB⟩ := mi_run_s h
      dsimp only [mX3_pairsWith_b17] at h
      refine lv_iload hx hb dX3_pairsWith_17 (lv_at hl 1 rfl) ?_
      refine lv_iload_n hx hb dX3_pairsWith_19 rfl (lv_at hl 3 rfl) ?_
      refine lv_iconst (v := 1) hx hb dX3_pairsWith_20 (by decide) ?_
      refine lv_isub hx hb dX3_pairsWith_21 ?_
      refine lv_icmp_ge (tgt := 92) hx hb dX3_pairsWith_22 (by decide) (fun c18 => ?_) (fun c18 => ?_)
      · replace h := (if_pos c18).symm.trans h
        exact hkE _ _ _ _ (hB _ (Option.some.inj h).symm) _ _ ls hP hD hS (lv_sub hl [0, 1, 2, 3, 4] rfl)
      · replace h := (if_neg c18).symm.trans h
        refine lv_aload_n hx hb dX3_pairsWith_25 rfl (lv_at hl 2 rfl) ?_
        refine lv_iload_n hx hb dX3_pairsWith_26 rfl (lv_at hl 3 rfl) ?_
        refine lv_iconst (v := 3) hx hb dX3_pairsWith_27 (by decide) ?_
        refine lv_iload hx hb dX3_pairsWith_28 (lv_at hl 1 rfl) ?_
        refine lv_imul hx hb dX3_pairsWith_30 ?_
        refine lv_iload_n hx hb dX3_pairsWith_31 rfl (lv_at hl 3 rfl) ?_
        have hn19 : ¬ a0 = 0 := fun hz => absurd ((if_pos hz).symm.trans h) (fun hh => nomatch hh)
        replace h := (if_neg hn19).symm.trans h
        refine lv_irem hx hb dX3_pairsWith_32 hn19 ?_
        refine lv_topi (fun v20 ev20 => ?_)
        replace h := mi_use ev20 h
        refine lv_iconst (v := 2) hx hb dX3_pairsWith_33 (by decide) ?_
        refine lv_iload hx hb dX3_pairsWith_34 (lv_at hl 1 rfl) ?_
        refine lv_imul hx hb dX3_pairsWith_36 ?_
        refine lv_iload_n hx hb dX3_pairsWith_37 rfl (lv_at hl 3 rfl) ?_
        have hn21 : ¬ a0 = 0 := fun hz => absurd ((if_pos hz).symm.trans h) (fun hh => nomatch hh)
        replace h := (if_neg hn21).symm.trans h
        refine lv_irem hx hb dX3_pairsWith_38 hn21 ?_
        refine lv_topi (fun v22 ev22 => ?_)
        replace h := mi_use ev22 h
        obtain ⟨r23, hr23, h⟩ := Option.bind_eq_some_iff.mp h
        have hPc := hP.sub (ws' := [(h0, .inr (3, [.ref h0_roots, .ref h0_strides, .ref h0_halvesFound])), (h0_roots, .inr (1, [.ref h0_roots_least, .int x12])), (h0_roots_least, .inl (k_t_roots_least, 10007, .inl x13))]) [0, 1, 2] rfl
        have hDc := hD.sub (ws' := [(h0, .inr (3, [.ref h0_roots, .ref h0_strides, .ref h0_halvesFound])), (h0_roots, .inr (1, [.ref h0_roots_least, .int x12])), (h0_roots_least, .inl (k_t_roots_least, 10007, .inl x13))]) [0, 1, 2] (by decide) rfl
        have hKc := hK.sub (tys' := [(k_t_roots_least, .int)]) [0] rfl
        have hFc := va_free (wc := [(h0, .inr (3, [.ref h0_roots, .ref h0_strides, .ref h0_halvesFound])), (h0_roots, .inr (1, [.ref h0_roots_least, .int x12])), (h0_roots_least, .inl (k_t_roots_least, 10007, .inl x13))]) hD hS hA0 [0, 1, 2] rfl
        refine va_calli (va_runV (As := [.int a0, .int v20, .int v22]) (rest := []) ⟨hx, hb, hml, hown, hts⟩ (ctX3_manyPoints l N dC dI _ h0 h0_roots h0_roots_least h0_strides h0_halvesFound k_t_roots_least x12 x13 a0 v20 v22 r23 hr23) (cwV 3 hts gX3_pairsWith_X3_manyPoints rfl rfl rfl (by decide +kernel) ⟨Nat.le_of_ble_eq_true rfl, Nat.le_of_ble_eq_true rfl⟩) ⟨fun a U g mk q => by obtain ⟨q0, q1, qP, qK, qN, qD⟩ := q; exact ⟨q0, q1, qP, va_K.moved (u := U) (U := U.calling g mk a) (Vm.Alike.refl U.vm) qK, nw_same (u := U) (U := U.calling g mk a) rfl qN, qD⟩, va_recv hKc hPc (ci := 3) (q0 := 0) rfl rfl, fun U hU hW => ⟨rfl, by rw [hU], by rw [hU]; exact hPc, va_K.moved hW.alike hKc, nw_warm hW hN, hDc.weaken (fun _ _ _ _ => trivial)⟩⟩ rfl rfl hl.1 rfl (lv_room (Nat.le_of_ble_eq_true rfl)) dX3_pairsWith_39 ⟨Nat.le_of_ble_eq_true rfl, Nat.le_of_ble_eq_true rfl⟩) hS (fun q _ h => hFc q h) hFc (fun rz u t H1 locs ht hvm hw hB1 hz1 hk1 hS => ?_)
        obtain ⟨u24, f25⟩ := u
        obtain ⟨hP1, hK1, hD1⟩ := hB1
        rw [ht] at hP1
        have hK1 := va_K.moved hvm.symm hK1
        obtain ⟨r26, rfl⟩ : ∃ z, z = rz := ⟨_, rfl⟩
        subst hw
        dsimp only at h
        obtain ⟨hP, hD⟩ := va_join (wr := []) (w1 := [(h0, .inr (3, [.ref h0_roots, .ref h0_strides, .ref h0_halvesFound])), (h0_roots, .inr (1, [.ref h0_roots_least, .int u24])), (h0_roots_least, .inl (k_t_roots_least, 10007, .inl f25))]) hP hD [0, 1, 2] [] rfl rfl (by decide) (by decide) hk1 hFc hP1 hD1
        generalize H1 = H at hP hS ⊢
        have hP := hP.sub (ws' := [(h0, .inr (3, [.ref h0_roots, .ref h0_strides, .ref h0_halvesFound])), (h0_roots, .inr (1, [.ref h0_roots_least, .int u24])), (h0_roots_least, .inl (k_t_roots_least, 10007, .inl f25))]) [0, 1, 2] rfl
        have hD := hD.sub (ws' := [(h0, .inr (3, [.ref h0_roots, .ref h0_strides, .ref h0_halvesFound])), (h0_roots, .inr (1, [.ref h0_roots_least, .int u24])), (h0_roots_least, .inl (k_t_roots_least, 10007, .inl f25))]) [0, 1, 2] (by decide) rfl
        refine lv_istore (lv' := [(5, .int r26), (3, .int x10), (4, .int x11), (0, .ref h0), (1, .int a0), (2, .int a1)]) hx hb dX3_pairsWith_42 hl (by decide) rfl (fun ls hl => ?_)
        refine lv_iload_n hx hb dX3_pairsWith_44 rfl (lv_at hl 1 rfl) ?_
        refine lv_iload hx hb dX3_pairsWith_45 (lv_at hl 0 rfl) ?_
        refine lv_iload_n hx hb dX3_pairsWith_47 rfl (lv_at hl 5 rfl) ?_
        refine lv_icmp_ne (tgt := 59) hx hb dX3_pairsWith_48 (by decide) (fun c27 => ?_) (fun c27 => ?_)
        · replace h := (if_neg c27).symm.trans h
          refine lv_iconst (v := 0) hx hb dX3_pairsWith_59 (by decide) ?_
          refine lv_iadd hx hb dX3_pairsWith_60 ?_
          refine lv_topi (fun v28 ev28 => ?_)
          replace h := mi_use ev28 h
          refine lv_istore_n (lv' := [(3, .int v28), (5, .int r26), (4, .int x11), (0, .ref h0), (1, .int a0), (2, .int a1)]) hx hb dX3_pairsWith_61 rfl hl (by decide) rfl (fun ls hl => ?_)
          refine lv_iload_n hx hb dX3_pairsWith_62 rfl (lv_at hl 0 rfl) ?_
          refine lv_iconst (v := 2) hx hb dX3_pairsWith_63 (by decide) ?_
          refine lv_iload_n hx hb dX3_pairsWith_64 rfl (lv_at hl 4 rfl) ?_
          refine lv_imul hx hb dX3_pairsWith_65 ?_
          refine lv_iconst (v := 2) hx hb dX3_pairsWith_66 (by decide) ?_
          refine lv_iadd hx hb dX3_pairsWith_67 ?_
          refine lv_iload hx hb dX3_pairsWith_68 (lv_at hl 1 rfl) ?_
          refine lv_isub hx hb dX3_pairsWith_70 ?_
          refine lv_iload_n hx hb dX3_pairsWith_71 rfl (lv_at hl 5 rfl) ?_
          refine lv_icmp_ne (tgt := 83) hx hb dX3_pairsWith_72 (by decide) (fun c29 => ?_) (fun c29 => ?_)
          · replace h := (if_neg c29).symm.trans h
            refine lv_iconst (v := 0) hx hb dX3_pairsWith_83 (by decide) ?_
            refine lv_iadd hx hb dX3_pairsWith_84 ?_
            refine lv_topi (fun v30 ev30 => ?_)
            replace h := mi_use ev30 h
            refine lv_istore_n (lv' := [(3, .int v30), (5, .int r26), (4, .int x11), (0, .ref h0), (1, .int a0), (2, .int a1)]) hx hb dX3_pairsWith_85 rfl hl (by decide) rfl (fun ls hl => ?_)
            obtain ⟨v31, ev31⟩ : ∃ z : Int32, z = x11 + 1 := ⟨_, rfl⟩
            refine lv_iinc (v := v31) (lv' := [(4, .int v31), (3, .int v30), (5, .int r26), (0, .ref h0), (1, .int a0), (2, .int a1)]) hx hb dX3_pairsWith_86 hl (k := 2) rfl (by rw [ev31]; rfl) (by decide) rfl (fun ls hl => ?_)
            replace h := mi_use ev31 h
            refine lv_goto (tgt := 17) hx hb dX3_pairsWith_89 (by decide) ?_
            exact ih _ _ _ _ _ (hA _ (Option.some.inj h).symm) hkE _ _ ls hP hD hS (lv_sub hl [1, 0, 3, 4, 5] rfl)
          · replace h := (if_pos c29).symm.trans h
            refine lv_iload_n hx hb dX3_pairsWith_75 rfl (lv_at hl 4 rfl) ?_
            refine lv_iconst (v := 1) hx hb dX3_pairsWith_76 (by decide) ?_
            refine lv_isub hx hb dX3_pairsWith_77 ?_
            refine lv_iconst (v := 2) hx hb dX3_pairsWith_78 (by decide) ?_
            refine lv_idiv hx hb dX3_pairsWith_79 (by decide) ?_
            refine lv_topi (fun v32 ev32 => ?_)
            replace h := mi_use ev32 h
            refine lv_goto (tgt := 84) hx hb dX3_pairsWith_80 (by decide) ?_
            refine lv_iadd hx hb dX3_pairsWith_84 ?_
            refine lv_topi (fun v33 ev33 => ?_)
            replace h := mi_use ev33 h
            refine lv_istore_n (lv' := [(3, .int v33), (5, .int r26), (4, .int x11), (0, .ref h0), (1, .int a0), (2, .int a1)]) hx hb dX3_pairsWith_85 rfl hl (by decide) rfl (fun ls hl => ?_)
            obtain ⟨v34, ev34⟩ : ∃ z : Int32, z = x11 + 1 := ⟨_, rfl⟩
            refine lv_iinc (v := v34) (lv' := [(4, .int v34), (3, .int v33), (5, .int r26), (0, .ref h0), (1, .int a0), (2, .int a1)]) hx hb dX3_pairsWith_86 hl (k := 2) rfl (by rw [ev34]; rfl) (by decide) rfl (fun ls hl => ?_)
            replace h := mi_use ev34 h
            refine lv_goto (tgt := 17) hx hb dX3_pairsWith_89 (by decide) ?_
            exact ih _ _ _ _ _ (hA _ (Option.some.inj h).symm) hkE _ _ ls hP hD hS (lv_sub hl [1, 0, 3, 4, 5] rfl)
        · replace h := (if_pos c27).symm.trans h
          refine lv_iload_n hx hb dX3_pairsWith_51 rfl (lv_at hl 4 rfl) ?_
          refine lv_iconst (v := 1) hx hb dX3_pairsWith_52 (by decide) ?_
          refine lv_isub hx hb dX3_pairsWith_53 ?_
          refine lv_iconst (v := 2) hx hb dX3_pairsWith_54 (by decide) ?_
          refine lv_idiv hx hb dX3_pairsWith_55 (by decide) ?_
          refine lv_topi (fun v35 ev35 => ?_)
          replace h := mi_use ev35 h
          refine lv_goto (tgt := 60) hx hb dX3_pairsWith_56 (by decide) ?_
          refine lv_iadd hx hb dX3_pairsWith_60 ?_
          refine lv_topi (fun v36 ev36 => ?_)
          replace h := mi_use ev36 h
          refine lv_istore_n (lv' := [(3, .int v36), (5, .int r26), (4, .int x11), (0, .ref h0), (1, .int a0), (2, .int a1)]) hx hb dX3_pairsWith_61 rfl hl (by decide) rfl (fun ls hl => ?_)
          refine lv_iload_n hx hb dX3_pairsWith_62 rfl (lv_at hl 0 rfl) ?_
          refine lv_iconst (v := 2) hx hb dX3_pairsWith_63 (by decide) ?_
          refine lv_iload_n hx hb dX3_pairsWith_64 rfl (lv_at hl 4 rfl) ?_
          refine lv_imul hx hb dX3_pairsWith_65 ?_
          refine lv_iconst (v := 2) hx hb dX3_pairsWith_66 (by decide) ?_
          refine lv_iadd hx hb dX3_pairsWith_67 ?_
          refine lv_iload hx hb dX3_pairsWith_68 (lv_at hl 1 rfl) ?_
          refine lv_isub hx hb dX3_pairsWith_70 ?_
          refine lv_iload_n hx hb dX3_pairsWith_71 rfl (lv_at hl 5 rfl) ?_
          refine lv_icmp_ne (tgt := 83) hx hb dX3_pairsWith_72 (by decide) (fun c37 => ?_) (fun c37 => ?_)
          · replace h := (if_neg c37).symm.trans h
            refine lv_iconst (v := 0) hx hb dX3_pairsWith_83 (by decide) ?_
            refine lv_iadd hx hb dX3_pairsWith_84 ?_
            refine lv_topi (fun v38 ev38 => ?_)
            replace h := mi_use ev38 h
            refine lv_istore_n (lv' := [(3, .int v38), (5, .int r26), (4, .int x11), (0, .ref h0), (1, .int a0), (2, .int a1)]) hx hb dX3_pairsWith_85 rfl hl (by decide) rfl (fun ls hl => ?_)
            obtain ⟨v39, ev39⟩ : ∃ z : Int32, z = x11 + 1 := ⟨_, rfl⟩
            refine lv_iinc (v := v39) (lv' := [(4, .int v39), (3, .int v38), (5, .int r26), (0, .ref h0), (1, .int a0), (2, .int a1)]) hx hb dX3_pairsWith_86 hl (k := 2) rfl (by rw [ev39]; rfl) (by decide) rfl (fun ls hl => ?_)
            replace h := mi_use ev39 h
            refine lv_goto (tgt := 17) hx hb dX3_pairsWith_89 (by decide) ?_
            exact ih _ _ _ _ _ (hA _ (Option.some.inj h).symm) hkE _ _ ls hP hD hS (lv_sub hl [1, 0, 3, 4, 5] rfl)
          · replace h := (if_pos c37).symm.trans h
            refine lv_iload_n hx hb dX3_pairsWith_75 rfl (lv_at hl 4 rfl) ?_
            refine lv_iconst (v := 1) hx hb dX3_pairsWith_76 (by decide) ?_
            refine lv_isub hx hb dX3_pairsWith_77 ?_
            refine lv_iconst (v := 2) hx hb dX3_pairsWith_78 (by decide) ?_
            refine lv_idiv hx hb dX3_pairsWith_79 (by decide) ?_
            refine lv_topi (fun v40 ev40 => ?_)
            replace h := mi_use ev40 h
            refine lv_goto (tgt := 84) hx hb dX3_pairsWith_80 (by decide) ?_
            refine lv_iadd hx hb dX3_pairsWith_84 ?_
            refine lv_topi (fun v41 ev41 => ?_)
            replace h := mi_use ev41 h
            refine lv_istore_n (lv' := [(3, .int v41), (5, .int r26), (4, .int x11), (0, .ref h0), (1, .int a0), (2, .int a1)]) hx hb dX3_pairsWith_85 rfl hl (by decide) rfl (fun ls hl => ?_)
            obtain ⟨v42, ev42⟩ : ∃ z : Int32, z = x11 + 1 := ⟨_, rfl⟩
            refine lv_iinc (v := v42) (lv' := [(4, .int v42), (3, .int v41), (5, .int r26), (0, .ref h0), (1, .int a0), (2, .int a1)]) hx hb dX3_pairsWith_86 hl (k := 2) rfl (by rw [ev42]; rfl) (by decide) rfl (fun ls hl => ?_)
            replace h := mi_use ev42 h
            refine lv_goto (tgt := 17) hx hb dX3_pairsWith_89 (by decide) ?_
            exact ih _ _ _ _ _ (hA _ (Option.some.inj h).symm) hkE _ _ ls hP hD hS (lv_sub hl [1, 0, 3, 4, 5] rfl)
  obtain ⟨o43, ho43, h⟩ := Option.bind_eq_some_iff.mp h
  refine L17 N _ _ _ _ o43 ho43 ?_ _ _ ls hP hD hS (lv_sub hl [1, 0, 2, 3, 4] rfl)
  intro y14 y15 y16 y17 eo H locs ls hP hD hS hl
  subst eo
  dsimp only at h
  refine lv_iload_n hx hb dX3_pairsWith_92 rfl (lv_at hl 0 rfl) ?_
  have hv : (y14, y16, y17) = rr := Option.some.inj h
  have hP9 := hP.sub (ws' := [(h0, .inr (3, [.ref h0_roots, .ref h0_strides, .ref h0_halvesFound])), (h0_roots, .inr (1, [.ref h0_roots_least, .int y16])), (h0_roots_least, .inl (k_t_roots_least, 10007, .inl y17))]) [0, 1, 2] rfl
  have hD9 := hD.sub (ws' := [(h0, .inr (3, [.ref h0_roots, .ref h0_strides, .ref h0_halvesFound])), (h0_roots, .inr (1, [.ref h0_roots_least, .int y16])), (h0_roots_least, .inl (k_t_roots_least, 10007, .inl y17))]) [0, 1, 2] (by decide) rfl
  have hK9 := hK.sub (tys' := [(k_t_roots_least, .int)]) [0] rfl
  exact W.iret (v := y14) hx hb hr (fun t ht hW => ⟨⟨y14, (y16, y17), rfl, hv, by rw [ht]; exact hP9, va_K.moved hW.alike hK9, hD9⟩, hS.F ht⟩) hS.2.2 dX3_pairsWith_93
end
section
def mX5_census (N : Nat) (t_roots_prime : Int32) (t_roots_least : Nat → Int32) (a0 : Int32) (a1 : Int32) : Option (Int32 × Int32 × (Nat → Int32)) := if 61 < a0 then some ((-2), t_roots_prime, t_roots_least) else (mX4_isFieldPrime N a0).bind (fun r2 => if r2 = 0 then some ((-2), t_roots_prime, t_roots_least) else (mX3_pairsWith N t_roots_prime t_roots_least a0 a1).bind (fun r4 => match r4 with | (r7, u5, f6) => some (r7, u5, f6)))
abbrev rmX5_census : Room := { frames := 6, cells := 0, slots := 0, locals := 140 }
set_option maxHeartbeats 4000000 in
set_option maxRecDepth 100000 in
theorem ctX5_census (l : Launch) (N : Nat) (dC : Nat → ClassId) (dI : Nat → Nat → Nat) (sz : Nat) (h0 : Nat) (h0_roots : Nat) (h0_survey : Nat) (h0_roots_least : Nat) (h0_held : Nat) (h0_survey_strides : Nat) (h0_survey_halvesFound : Nat) (k_t_roots_least : ClassId) (t_size : Int32) (t_roots_prime : Int32) (t_roots_least : Nat → Int32) (a0 : Int32) (a1 : Int32) (rr : Int32 × Int32 × (Nat → Int32)) (h : mX5_census N t_roots_prime t_roots_least a0 a1 = some rr) : Met l yX5_census wsX5_census rmX5_census (va_Pc [.ref h0, .int a0, .int a1] (fun U => U.heap.size = sz ∧ va_P (dC, dI) vwCl [(h0, .inr (4, [.ref h0_held, .int t_size, .ref h0_roots, .ref h0_survey])), (h0_roots, .inr (1, [.ref h0_roots_least, .int t_roots_prime])), (h0_survey, .inr (3, [.ref h0_roots, .ref h0_survey_strides, .ref h0_survey_halvesFound])), (h0_roots_least, .inl (k_t_roots_least, 10007, .inl t_roots_least))] U.heap ∧ va_K (dC, dI) vwCl [(k_t_roots_least, .int)] U ∧ nw_all U ∧ va_D (fun _ => True) [(h0, .inr (4, [.ref h0_held, .int t_size, .ref h0_roots, .ref h0_survey])), (h0_roots, .inr (1, [.ref h0_roots_least, .int t_roots_prime])), (h0_survey, .inr (3, [.ref h0_roots, .ref h0_survey_strides, .ref h0_survey_halvesFound])), (h0_roots_least, .inl (k_t_roots_least, 10007, .inl t_roots_least))])) (va_Qi (fun (r : Int32) (u : Int32 × (Nat → Int32)) => (r, u) = rr) (fun (u : Int32 × (Nat → Int32)) t => match u with | (u0, u1) => va_P (dC, dI) vwCl [(h0, .inr (4, [.ref h0_held, .int t_size, .ref h0_roots, .ref h0_survey])), (h0_roots, .inr (1, [.ref h0_roots_least, .int u0])), (h0_survey, .inr (3, [.ref h0_roots, .ref h0_survey_strides, .ref h0_survey_halvesFound])), (h0_roots_least, .inl (k_t_roots_least, 10007, .inl u1))] t.heap ∧ va_K (dC, dI) vwCl [(k_t_roots_least, .int)] t ∧ va_D (va_A [(h0, .inr (4, [.ref h0_held, .int t_size, .ref h0_roots, .ref h0_survey])), (h0_roots, .inr (1, [.ref h0_roots_least, .int t_roots_prime])), (h0_survey, .inr (3, [.ref h0_roots, .ref h0_survey_strides, .ref h0_survey_halvesFound])), (h0_roots_least, .inl (k_t_roots_least, 10007, .inl t_roots_least))] sz) [(h0, .inr (4, [.ref h0_held, .int t_size, .ref h0_roots, .ref h0_survey])), (h0_roots, .inr (1, [.ref h0_roots_least, .int u0])), (h0_survey, .inr (3, [.ref h0_roots, .ref h0_survey_strides, .ref h0_survey_halvesFound])), (h0_roots_least, .inl (k_t_roots_least, 10007, .inl u1))]) (va_A [(h0, .inr (4, [.ref h0_held, .int t_size, .ref h0_roots, .ref h0_survey])), (h0_roots, .inr (1, [.ref h0_roots_least, .int t_roots_prime])), (h0_survey, .inr (3, [.ref h0_roots, .ref h0_survey_strides, .ref h0_survey_halvesFound])), (h0_roots_least, .inl (k_t_roots_least, 10007, .inl t_roots_least))] sz)) 0 0 (va_A [(h0, .inr (4, [.ref h0_held, .int t_size, .ref h0_roots, .ref h0_survey])), (h0_roots, .inr (1, [.ref h0_roots_least, .int t_roots_prime])), (h0_survey, .inr (3, [.ref h0_roots, .ref h0_survey_strides, .ref h0_survey_halvesFound])), (h0_roots_least, .inl (k_t_roots_least, 10007, .inl t_roots_least))] sz) := by
  refine Met.ofW (cc := cX5_census) (maxL := 3) (ret := (some .int)) (by decide) rfl ?_
  intro p e s m args below meth c s₁ B hml hv
  obtain ⟨rfl, hsz, hP, hK, hN, hD0⟩ := hv
  have hx := B.exec
  have hb := B.bytes
  have hr := B.returns
  have hts := atoms_spec (ws := wsX5_census) B.pre
  have hown : s.vm.findClass RX5 = some m.cls := findClass_of_methodNamed B.named
  have hlocks := B.notSynchronized
  subst hsz
  have hD := hD0.self (sz := s.heap.size)
  generalize hAe : va_A [(h0, .inr (4, [.ref h0_held, .int t_size, .ref h0_roots, .ref h0_survey])), (h0_roots, .inr (1, [.ref h0_roots_least, .int t_roots_prime])), (h0_survey, .inr (3, [.ref h0_roots, .ref h0_survey_strides, .ref h0_survey_halvesFound])), (h0_roots_least, .inl (k_t_roots_least, 10007, .inl t_roots_least))] s.heap.size = A at hD ⊢
  have hA0 : ∀ q : Nat, s.heap.size ≤ q → A q := fun q h => by rw [← hAe]; exact Or.inr h
  have hS : va_S A s.heap s.heap [] := va_S.rf
  have hP : va_P (dC, dI) vwCl [(h0, .inr (4, [.ref h0_held, .int t_size, .ref h0_roots, .ref h0_survey])), (h0_roots, .inr (1, [.ref h0_roots_least, .int t_roots_prime])), (h0_survey, .inr (3, [.ref h0_roots, .ref h0_survey_strides, .ref h0_survey_halvesFound])), (h0_roots_least, .inl (k_t_roots_least, 10007, .inl t_roots_least))] s.heap := hP
  have hl := lv_entry ([.ref h0, .int a0, .int a1]) (n := 3) (Nat.le_of_ble_eq_true rfl)
  rw [lg_entry_eq]
  generalize (lg_sl ([.ref h0, .int a0, .int a1]) ++ List.replicate (3 - (lg_sl ([.ref h0, .int a0, .int a1])).length) Slot.unset).toArray = ls at hl ⊢
  have hl : lv_has ls 3 [(0, .ref h0), (1, .int a0), (2, .int a1)] := hl
  dsimp only [mX5_census] at h
  refine lv_iload_n hx hb dX5_census_0 rfl (lv_at hl 1 rfl) ?_
  refine lv_bipush (v := 61) hx hb dX5_census_1 (by decide) ?_
  refine lv_icmp_gt (tgt := 13) hx hb dX5_census_3 (by decide) (fun c1 => ?_) (fun c1 => ?_)
  · replace h := (if_pos c1).symm.trans h
    refine lv_bipush (v := (-2)) hx hb dX5_census_13 (by decide) ?_
    refine lv_goto (tgt := 27) hx hb dX5_census_15 (by decide) ?_
    have hv : ((-2), t_roots_prime, t_roots_least) = rr := Option.some.inj h
    have hP9 := hP.sub (ws' := [(h0, .inr (4, [.ref h0_held, .int t_size, .ref h0_roots, .ref h0_survey])), (h0_roots, .inr (1, [.ref h0_roots_least, .int t_roots_prime])), (h0_survey, .inr (3, [.ref h0_roots, .ref h0_survey_strides, .ref h0_survey_halvesFound])), (h0_roots_least, .inl (k_t_roots_least, 10007, .inl t_roots_least))]) [0, 1, 2, 3] rfl
    have hD9 := hD.sub (ws' := [(h0, .inr (4, [.ref h0_held, .int t_size, .ref h0_roots, .ref h0_survey])), (h0_roots, .inr (1, [.ref h0_roots_least, .int t_roots_prime])), (h0_survey, .inr (3, [.ref h0_roots, .ref h0_survey_strides, .ref h0_survey_halvesFound])), (h0_roots_least, .inl (k_t_roots_least, 10007, .inl t_roots_least))]) [0, 1, 2, 3] (by decide) rfl
    have hK9 := hK.sub (tys' := [(k_t_roots_least, .int)]) [0] rfl
    exact W.iret (v := (-2)) hx hb hr (fun t ht hW => ⟨⟨(-2), (t_roots_prime, t_roots_least), rfl, hv, by rw [ht]; exact hP9, va_K.moved hW.alike hK9, hD9⟩, hS.F ht⟩) hS.2.2 dX5_census_27
  · replace h := (if_neg c1).symm.trans h
    refine lv_iload_n hx hb dX5_census_6 rfl (lv_at hl 1 rfl) ?_
    obtain ⟨r2, hr2, h⟩ := Option.bind_eq_some_iff.mp h
    refine vp_callSi (W.runS (As := [.int a0]) (rest := []) ⟨hx, hb, hml, hown, hts⟩ (ctX4_isFieldPrime l N  a0 r2 hr2) (va_cwS 1 hts gX5_census_X4_isFieldPrime rfl rfl rfl (by decide +kernel) ⟨Nat.le_of_ble_eq_true rfl, Nat.le_of_ble_eq_true rfl⟩) preEq rfl rfl hl.1 rfl (lv_room (Nat.le_of_ble_eq_true rfl)) dX5_census_7 ⟨Nat.le_of_ble_eq_true rfl, Nat.le_of_ble_eq_true rfl⟩) (fun q9 eq9 => ?_)
    subst eq9
    refine lv_if_ne (tgt := 18) hx hb dX5_census_10 (by decide) (fun c3 => ?_) (fun c3 => ?_)
    · replace h := (if_neg c3).symm.trans h
      refine lv_aload_n hx hb dX5_census_18 rfl (lv_at hl 0 rfl) ?_
      refine va_get (D := (dC, dI)) (ci := 4) (v := .ref h0_survey) (C := RX5) (T := TX5) (N := 4) hx hb hts (by decide +kernel) hown hK hP 0 rfl rfl 3 (by decide) (hts (.fieldLink RX5 31 "PointRings" "survey" "LPointRings$Survey;") (by decide +kernel)) (fun _ h9 => h9) rfl dX5_census_19 ?_
      refine lv_iload_n hx hb dX5_census_22 rfl (lv_at hl 1 rfl) ?_
      refine lv_iload_n hx hb dX5_census_23 rfl (lv_at hl 2 rfl) ?_
      obtain ⟨r4, hr4, h⟩ := Option.bind_eq_some_iff.mp h
      have hPc := hP.sub (ws' := [(h0_survey, .inr (3, [.ref h0_roots, .ref h0_survey_strides, .ref h0_survey_halvesFound])), (h0_roots, .inr (1, [.ref h0_roots_least, .int t_roots_prime])), (h0_roots_least, .inl (k_t_roots_least, 10007, .inl t_roots_least))]) [2, 1, 3] rfl
      have hDc := hD.sub (ws' := [(h0_survey, .inr (3, [.ref h0_roots, .ref h0_survey_strides, .ref h0_survey_halvesFound])), (h0_roots, .inr (1, [.ref h0_roots_least, .int t_roots_prime])), (h0_roots_least, .inl (k_t_roots_least, 10007, .inl t_roots_least))]) [2, 1, 3] (by decide) rfl
      have hKc := hK.sub (tys' := [(k_t_roots_least, .int)]) [0] rfl
      have hFc := va_free (wc := [(h0_survey, .inr (3, [.ref h0_roots, .ref h0_survey_strides, .ref h0_survey_halvesFound])), (h0_roots, .inr (1, [.ref h0_roots_least, .int t_roots_prime])), (h0_roots_least, .inl (k_t_roots_least, 10007, .inl t_roots_least))]) hD hS hA0 [2, 1, 3] rfl
      refine va_calli (va_runV (As := [.int a0, .int a1]) (rest := []) ⟨hx, hb, hml, hown, hts⟩ (ctX3_pairsWith l N dC dI _ h0_survey h0_roots h0_roots_least h0_survey_strides h0_survey_halvesFound k_t_roots_least t_roots_prime t_roots_least a0 a1 r4 hr4) (cwV 2 hts gX5_census_X3_pairsWith rfl rfl rfl (by decide +kernel) ⟨Nat.le_of_ble_eq_true rfl, Nat.le_of_ble_eq_true rfl⟩) ⟨fun a U g mk q => by obtain ⟨q0, q1, qP, qK, qN, qD⟩ := q; exact ⟨q0, q1, qP, va_K.moved (u := U) (U := U.calling g mk a) (Vm.Alike.refl U.vm) qK, nw_same (u := U) (U := U.calling g mk a) rfl qN, qD⟩, va_recv hKc hPc (ci := 3) (q0 := 0) rfl rfl, fun U hU hW => ⟨rfl, by rw [hU], by rw [hU]; exact hPc, va_K.moved hW.alike hKc, nw_warm hW hN, hDc.weaken (fun _ _ _ _ => trivial)⟩⟩ rfl rfl hl.1 rfl (lv_room (Nat.le_of_ble_eq_true rfl)) dX5_census_24 ⟨Nat.le_of_ble_eq_true rfl, Nat.le_of_ble_eq_true rfl⟩) hS (fun q _ h => hFc q h) hFc (fun rz u t H1 locs ht hvm hw hB1 hz1 hk1 hS => ?_)
      obtain ⟨u5, f6⟩ := u
      obtain ⟨hP1, hK1, hD1⟩ := hB1
      rw [ht] at hP1
      have hK1 := va_K.moved hvm.symm hK1
      obtain ⟨r7, rfl⟩ : ∃ z, z = rz := ⟨_, rfl⟩
      subst hw
      dsimp only at h
      obtain ⟨hP, hD⟩ := va_join (wr := [(h0, .inr (4, [.ref h0_held, .int t_size, .ref h0_roots, .ref h0_survey]))]) (w1 := [(h0_survey, .inr (3, [.ref h0_roots, .ref h0_survey_strides, .ref h0_survey_halvesFound])), (h0_roots, .inr (1, [.ref h0_roots_least, .int u5])), (h0_roots_least, .inl (k_t_roots_least, 10007, .inl f6))]) hP hD [2, 1, 3] [0] rfl rfl (by decide) (by decide) hk1 hFc hP1 hD1
      generalize H1 = H at hP hS ⊢
      have hP := hP.sub (ws' := [(h0, .inr (4, [.ref h0_held, .int t_size, .ref h0_roots, .ref h0_survey])), (h0_roots, .inr (1, [.ref h0_roots_least, .int u5])), (h0_survey, .inr (3, [.ref h0_roots, .ref h0_survey_strides, .ref h0_survey_halvesFound])), (h0_roots_least, .inl (k_t_roots_least, 10007, .inl f6))]) [0, 2, 1, 3] rfl
      have hD := hD.sub (ws' := [(h0, .inr (4, [.ref h0_held, .int t_size, .ref h0_roots, .ref h0_survey])), (h0_roots, .inr (1, [.ref h0_roots_least, .int u5])), (h0_survey, .inr (3, [.ref h0_roots, .ref h0_survey_strides, .ref h0_survey_halvesFound])), (h0_roots_least, .inl (k_t_roots_least, 10007, .inl f6))]) [0, 2, 1, 3] (by decide) rfl
      have hv : (r7, u5, f6) = rr := Option.some.inj h
      have hP9 := hP.sub (ws' := [(h0, .inr (4, [.ref h0_held, .int t_size, .ref h0_roots, .ref h0_survey])), (h0_roots, .inr (1, [.ref h0_roots_least, .int u5])), (h0_survey, .inr (3, [.ref h0_roots, .ref h0_survey_strides, .ref h0_survey_halvesFound])), (h0_roots_least, .inl (k_t_roots_least, 10007, .inl f6))]) [0, 1, 2, 3] rfl
      have hD9 := hD.sub (ws' := [(h0, .inr (4, [.ref h0_held, .int t_size, .ref h0_roots, .ref h0_survey])), (h0_roots, .inr (1, [.ref h0_roots_least, .int u5])), (h0_survey, .inr (3, [.ref h0_roots, .ref h0_survey_strides, .ref h0_survey_halvesFound])), (h0_roots_least, .inl (k_t_roots_least, 10007, .inl f6))]) [0, 1, 2, 3] (by decide) rfl
      have hK9 := hK.sub (tys' := [(k_t_roots_least, .int)]) [0] rfl
      exact W.iret (v := r7) hx hb hr (fun t ht hW => ⟨⟨r7, (u5, f6), rfl, hv, by rw [ht]; exact hP9, va_K.moved hW.alike hK9, hD9⟩, hS.F ht⟩) hS.2.2 dX5_census_27
    · replace h := (if_pos c3).symm.trans h
      refine lv_bipush (v := (-2)) hx hb dX5_census_13 (by decide) ?_
      refine lv_goto (tgt := 27) hx hb dX5_census_15 (by decide) ?_
      have hv : ((-2), t_roots_prime, t_roots_least) = rr := Option.some.inj h
      have hP9 := hP.sub (ws' := [(h0, .inr (4, [.ref h0_held, .int t_size, .ref h0_roots, .ref h0_survey])), (h0_roots, .inr (1, [.ref h0_roots_least, .int t_roots_prime])), (h0_survey, .inr (3, [.ref h0_roots, .ref h0_survey_strides, .ref h0_survey_halvesFound])), (h0_roots_least, .inl (k_t_roots_least, 10007, .inl t_roots_least))]) [0, 1, 2, 3] rfl
      have hD9 := hD.sub (ws' := [(h0, .inr (4, [.ref h0_held, .int t_size, .ref h0_roots, .ref h0_survey])), (h0_roots, .inr (1, [.ref h0_roots_least, .int t_roots_prime])), (h0_survey, .inr (3, [.ref h0_roots, .ref h0_survey_strides, .ref h0_survey_halvesFound])), (h0_roots_least, .inl (k_t_roots_least, 10007, .inl t_roots_least))]) [0, 1, 2, 3] (by decide) rfl
      have hK9 := hK.sub (tys' := [(k_t_roots_least, .int)]) [0] rfl
      exact W.iret (v := (-2)) hx hb hr (fun t ht hW => ⟨⟨(-2), (t_roots_prime, t_roots_least), rfl, hv, by rw [ht]; exact hP9, va_K.moved hW.alike hK9, hD9⟩, hS.F ht⟩) hS.2.2 dX5_census_27
end
section
def mX3_kindsWith_b35 (N : Nat) (a0 : Int32) (a1 : Int32) (st : Int32 × Int32 × Int32 × (Nat → Int32)) : Option ((Int32 × Int32 × Int32 × (Nat → Int32)) ⊕ (Int32 × Int32 × Int32 × (Nat → Int32))) :=
  match st with
  | (x12, x13, x14, x15) => if (a0 - 1) ≤ x13 then some (.inr (x12, x13, x14, x15)) else if a0 = 0 then none else mi_let (mi_rem (3 * x13) a0) (fun v22 => if a0 = 0 then none else mi_let (mi_rem (2 * x13) a0) (fun v24 => (mX3_manyPoints N x14 x15 a0 v22 v24).bind (fun r25 => match r25 with | (r28, u26, f27) => if r28 = a1 then mi_let (x12 + 1) (fun v30 => mi_let (x13 + 1) (fun v31 => some (.inl (v30, v31, u26, f27)))) else if (((2 * a0) + 2) - r28) = a1 then mi_let (x12 + 1) (fun v35 => mi_let (x13 + 1) (fun v36 => some (.inl (v35, v36, u26, f27)))) else mi_let (x12 + 0) (fun v33 => mi_let (x13 + 1) (fun v34 => some (.inl (v33, v34, u26, f27)))))))
def mX3_kindsWith (N : Nat) (t_roots_prime : Int32) (t_roots_least : Nat → Int32) (a0 : Int32) (a1 : Int32) : Option (Int32 × Int32 × (Nat → Int32)) := (mX3_manyWithoutA N t_roots_prime t_roots_least a0 a1).bind (fun r1 => match r1 with | (r4, u2, f3) => if r4 ≤ 0 then (mX3_manyWithoutB N u2 f3 a0 a1).bind (fun r6 => match r6 with | (r9, u7, f8) => if r9 ≤ 0 then mi_let ((0 : Int32) + 0) (fun v11 => (mi_run (mX3_kindsWith_b35 N a0 a1) N (v11, 1, u7, f8)).bind (fun o37 => match o37 with | (y16, y17, y18, y19) => some (y16, y18, y19))) else mi_let ((0 : Int32) + 1) (fun v38 => (mi_run (mX3_kindsWith_b35 N a0 a1) N (v38, 1, u7, f8)).bind (fun o64 => match o64 with | (y43, y44, y45, y46) => some (y43, y45, y46)))) else (mX3_manyWithoutB N u2 f3 a0 a1).bind (fun r65 => match r65 with | (r68, u66, f67) => if r68 ≤ 0 then mi_let ((1 : Int32) + 0) (fun v70 => (mi_run (mX3_kindsWith_b35 N a0 a1) N (v70, 1, u66, f67)).bind (fun o96 => match o96 with | (y75, y76, y77, y78) => some (y75, y77, y78))) else mi_let ((1 : Int32) + 1) (fun v97 => (mi_run (mX3_kindsWith_b35 N a0 a1) N (v97, 1, u66, f67)).bind (fun o123 => match o123 with | (y102, y103, y104, y105) => some (y102, y104, y105)))))
abbrev rmX3_kindsWith : Room := { frames := 5, cells := 0, slots := 0, locals := 115 }
set_option maxHeartbeats 4000000 in
set_option maxRecDepth 100000 in
theorem ctX3_kindsWith (l : Launch) (N : Nat) (dC : Nat → ClassId) (dI : Nat → Nat → Nat) (sz : Nat) (h0 : Nat) (h0_roots : Nat) (h0_roots_least : Nat) (h0_strides : Nat) (h0_halvesFound : Nat) (k_t_roots_least : ClassId) (t_roots_prime : Int32) (t_roots_least : Nat → Int32) (a0 : Int32) (a1 : Int32) (rr : Int32 × Int32 × (Nat → Int32)) (h : mX3_kindsWith N t_roots_prime t_roots_least a0 a1 = some rr) : Met l yX3_kindsWith wsX3_kindsWith rmX3_kindsWith (va_Pc [.ref h0, .int a0, .int a1] (fun U => U.heap.size = sz ∧ va_P (dC, dI) vwCl [(h0, .inr (3, [.ref h0_roots, .ref h0_strides, .ref h0_halvesFound])), (h0_roots, .inr (1, [.ref h0_roots_least, .int t_roots_prime])), (h0_roots_least, .inl (k_t_roots_least, 10007, .inl t_roots_least))] U.heap ∧ va_K (dC, dI) vwCl [(k_t_roots_least, .int)] U ∧ nw_all U ∧ va_D (fun _ => True) [(h0, .inr (3, [.ref h0_roots, .ref h0_strides, .ref h0_halvesFound])), (h0_roots, .inr (1, [.ref h0_roots_least, .int t_roots_prime])), (h0_roots_least, .inl (k_t_roots_least, 10007, .inl t_roots_least))])) (va_Qi (fun (r : Int32) (u : Int32 × (Nat → Int32)) => (r, u) = rr) (fun (u : Int32 × (Nat → Int32)) t => match u with | (u0, u1) => va_P (dC, dI) vwCl [(h0, .inr (3, [.ref h0_roots, .ref h0_strides, .ref h0_halvesFound])), (h0_roots, .inr (1, [.ref h0_roots_least, .int u0])), (h0_roots_least, .inl (k_t_roots_least, 10007, .inl u1))] t.heap ∧ va_K (dC, dI) vwCl [(k_t_roots_least, .int)] t ∧ va_D (va_A [(h0, .inr (3, [.ref h0_roots, .ref h0_strides, .ref h0_halvesFound])), (h0_roots, .inr (1, [.ref h0_roots_least, .int t_roots_prime])), (h0_roots_least, .inl (k_t_roots_least, 10007, .inl t_roots_least))] sz) [(h0, .inr (3, [.ref h0_roots, .ref h0_strides, .ref h0_halvesFound])), (h0_roots, .inr (1, [.ref h0_roots_least, .int u0])), (h0_roots_least, .inl (k_t_roots_least, 10007, .inl u1))]) (va_A [(h0, .inr (3, [.ref h0_roots, .ref h0_strides, .ref h0_halvesFound])), (h0_roots, .inr (1, [.ref h0_roots_least, .int t_roots_prime])), (h0_roots_least, .inl (k_t_roots_least, 10007, .inl t_roots_least))] sz)) 0 0 (va_A [(h0, .inr (3, [.ref h0_roots, .ref h0_strides, .ref h0_halvesFound])), (h0_roots, .inr (1, [.ref h0_roots_least, .int t_roots_prime])), (h0_roots_least, .inl (k_t_roots_least, 10007, .inl t_roots_least))] sz) := by
  refine Met.ofW (cc := cX3_kindsWith) (maxL := 6) (ret := (some .int)) (by decide) rfl ?_
  intro p e s m args below meth c s₁ B hml hv
  obtain ⟨rfl, hsz, hP, hK, hN, hD0⟩ := hv
  have hx := B.exec
  have hb := B.bytes
  have hr := B.returns
  have hts := atoms_spec (ws := wsX3_kindsWith) B.pre
  have hown : s.vm.findClass RX3 = some m.cls := findClass_of_methodNamed B.named
  have hlocks := B.notSynchronized
  subst hsz
  have hD := hD0.self (sz := s.heap.size)
  generalize hAe : va_A [(h0, .inr (3, [.ref h0_roots, .ref h0_strides, .ref h0_halvesFound])), (h0_roots, .inr (1, [.ref h0_roots_least, .int t_roots_prime])), (h0_roots_least, .inl (k_t_roots_least, 10007, .inl t_roots_least))] s.heap.size = A at hD ⊢
  have hA0 : ∀ q : Nat, s.heap.size ≤ q → A q := fun q h => by rw [← hAe]; exact Or.inr h
  have hS : va_S A s.heap s.heap [] := va_S.rf
  have hP : va_P (dC, dI) vwCl [(h0, .inr (3, [.ref h0_roots, .ref h0_strides, .ref h0_halvesFound])), (h0_roots, .inr (1, [.ref h0_roots_least, .int t_roots_prime])), (h0_roots_least, .inl (k_t_roots_least, 10007, .inl t_roots_least))] s.heap := hP
  have hl := lv_entry ([.ref h0, .int a0, .int a1]) (n := 6) (Nat.le_of_ble_eq_true rfl)
  rw [lg_entry_eq]
  generalize (lg_sl ([.ref h0, .int a0, .int a1]) ++ List.replicate (6 - (lg_sl ([.ref h0, .int a0, .int a1])).length) Slot.unset).toArray = ls at hl ⊢
  have hl : lv_has ls 6 [(0, .ref h0), (1, .int a0), (2, .int a1)] := hl
  dsimp only [mX3_kindsWith] at h
  refine lv_aload_n hx hb dX3_kindsWith_0 rfl (lv_at hl 0 rfl) ?_
  refine lv_iload_n hx hb dX3_kindsWith_1 rfl (lv_at hl 1 rfl) ?_
  refine lv_iload_n hx hb dX3_kindsWith_2 rfl (lv_at hl 2 rfl) ?_
  obtain ⟨r1, hr1, h⟩ := Option.bind_eq_some_iff.mp h
  have hPc := hP.sub (ws' := [(h0, .inr (3, [.ref h0_roots, .ref h0_strides, .ref h0_halvesFound])), (h0_roots, .inr (1, [.ref h0_roots_least, .int t_roots_prime])), (h0_roots_least, .inl (k_t_roots_least, 10007, .inl t_roots_least))]) [0, 1, 2] rfl
  have hDc := hD.sub (ws' := [(h0, .inr (3, [.ref h0_roots, .ref h0_strides, .ref h0_halvesFound])), (h0_roots, .inr (1, [.ref h0_roots_least, .int t_roots_prime])), (h0_roots_least, .inl (k_t_roots_least, 10007, .inl t_roots_least))]) [0, 1, 2] (by decide) rfl
  have hKc := hK.sub (tys' := [(k_t_roots_least, .int)]) [0] rfl
  have hFc := va_free (wc := [(h0, .inr (3, [.ref h0_roots, .ref h0_strides, .ref h0_halvesFound])), (h0_roots, .inr (1, [.ref h0_roots_least, .int t_roots_prime])), (h0_roots_least, .inl (k_t_roots_least, 10007, .inl t_roots_least))]) hD hS hA0 [0, 1, 2] rfl
  refine va_calli (va_runV (As := [.int a0, .int a1]) (rest := []) ⟨hx, hb, hml, hown, hts⟩ (ctX3_manyWithoutA l N dC dI _ h0 h0_roots h0_roots_least h0_strides h0_halvesFound k_t_roots_least t_roots_prime t_roots_least a0 a1 r1 hr1) (cwV 2 hts gX3_kindsWith_X3_manyWithoutA rfl rfl rfl (by decide +kernel) ⟨Nat.le_of_ble_eq_true rfl, Nat.le_of_ble_eq_true rfl⟩) ⟨fun a U g mk q => by obtain ⟨q0, q1, qP, qK, qN, qD⟩ := q; exact ⟨q0, q1, qP, va_K.moved (u := U) (U := U.calling g mk a) (Vm.Alike.refl U.vm) qK, nw_same (u := U) (U := U.calling g mk a) rfl qN, qD⟩, va_recv hKc hPc (ci := 3) (q0 := 0) rfl rfl, fun U hU hW => ⟨rfl, by rw [hU], by rw [hU]; exact hPc, va_K.moved hW.alike hKc, nw_warm hW hN, hDc.weaken (fun _ _ _ _ => trivial)⟩⟩ rfl rfl hl.1 rfl (lv_room (Nat.le_of_ble_eq_true rfl)) dX3_kindsWith_3 ⟨Nat.le_of_ble_eq_true rfl, Nat.le_of_ble_eq_true rfl⟩) hS (fun q _ h => hFc q h) hFc (fun rz u t H1 locs ht hvm hw hB1 hz1 hk1 hS => ?_)
  obtain ⟨u2, f3⟩ := u
  obtain ⟨hP1, hK1, hD1⟩ := hB1
  rw [ht] at hP1
  have hK1 := va_K.moved hvm.symm hK1
  obtain ⟨r4, rfl⟩ : ∃ z, z = rz := ⟨_, rfl⟩
  subst hw
  dsimp only at h
  obtain ⟨hP, hD⟩ := va_join (wr := []) (w1 := [(h0, .inr (3, [.ref h0_roots, .ref h0_strides, .ref h0_halvesFound])), (h0_roots, .inr (1, [.ref h0_roots_least, .int u2])), (h0_roots_least, .inl (k_t_roots_least, 10007, .inl f3))]) hP hD [0, 1, 2] [] rfl rfl (by decide) (by decide) hk1 hFc hP1 hD1
  generalize H1 = H at hP hS ⊢
  have hP := hP.sub (ws' := [(h0, .inr (3, [.ref h0_roots, .ref h0_strides, .ref h0_halvesFound])), (h0_roots, .inr (1, [.ref h0_roots_least, .int u2])), (h0_roots_least, .inl (k_t_roots_least, 10007, .inl f3))]) [0, 1, 2] rfl
  have hD := hD.sub (ws' := [(h0, .inr (3, [.ref h0_roots, .ref h0_strides, .ref h0_halvesFound])), (h0_roots, .inr (1, [.ref h0_roots_least, .int u2])), (h0_roots_least, .inl (k_t_roots_least, 10007, .inl f3))]) [0, 1, 2] (by decide) rfl
  refine lv_if_le (tgt := 13) hx hb dX3_kindsWith_6 (by decide) (fun c5 => ?_) (fun c5 => ?_)
  · replace h := (if_pos c5).symm.trans h
    refine lv_iconst (v := 0) hx hb dX3_kindsWith_13 (by decide) ?_
    refine lv_istore_n (lv' := [(3, .int 0), (0, .ref h0), (1, .int a0), (2, .int a1)]) hx hb dX3_kindsWith_14 rfl hl (by decide) rfl (fun ls hl => ?_)
    refine lv_iload_n hx hb dX3_kindsWith_15 rfl (lv_at hl 0 rfl) ?_
    refine lv_aload_n hx hb dX3_kindsWith_16 rfl (lv_at hl 1 rfl) ?_
    refine lv_iload_n hx hb dX3_kindsWith_17 rfl (lv_at hl 2 rfl) ?_
    refine lv_iload_n hx hb dX3_kindsWith_18 rfl (lv_at hl 3 rfl) ?_
    obtain ⟨r6, hr6, h⟩ := Option.bind_eq_some_iff.mp h
    have hPc := hP.sub (ws' := [(h0, .inr (3, [.ref h0_roots, .ref h0_strides, .ref h0_halvesFound])), (h0_roots, .inr (1, [.ref h0_roots_least, .int u2])), (h0_roots_least, .inl (k_t_roots_least, 10007, .inl f3))]) [0, 1, 2] rfl
    have hDc := hD.sub (ws' := [(h0, .inr (3, [.ref h0_roots, .ref h0_strides, .ref h0_halvesFound])), (h0_roots, .inr (1, [.ref h0_roots_least, .int u2])), (h0_roots_least, .inl (k_t_roots_least, 10007, .inl f3))]) [0, 1, 2] (by decide) rfl
    have hKc := hK.sub (tys' := [(k_t_roots_least, .int)]) [0] rfl
    have hFc := va_free (wc := [(h0, .inr (3, [.ref h0_roots, .ref h0_strides, .ref h0_halvesFound])), (h0_roots, .inr (1, [.ref h0_roots_least, .int u2])), (h0_roots_least, .inl (k_t_roots_least, 10007, .inl f3))]) hD hS hA0 [0, 1, 2] rfl
    refine va_calli (va_runV (As := [.int a0, .int a1]) (rest := [.int 0]) ⟨hx, hb, hml, hown, hts⟩ (ctX3_manyWithoutB l N dC dI _ h0 h0_roots h0_roots_least h0_strides h0_halvesFound k_t_roots_least u2 f3 a0 a1 r6 hr6) (cwV 2 hts gX3_kindsWith_X3_manyWithoutB rfl rfl rfl (by decide +kernel) ⟨Nat.le_of_ble_eq_true rfl, Nat.le_of_ble_eq_true rfl⟩) ⟨fun a U g mk q => by obtain ⟨q0, q1, qP, qK, qN, qD⟩ := q; exact ⟨q0, q1, qP, va_K.moved (u := U) (U := U.calling g mk a) (Vm.Alike.refl U.vm) qK, nw_same (u := U) (U := U.calling g mk a) rfl qN, qD⟩, va_recv hKc hPc (ci := 3) (q0 := 0) rfl rfl, fun U hU hW => ⟨rfl, by rw [hU], by rw [hU]; exact hPc, va_K.moved hW.alike hKc, nw_warm hW hN, hDc.weaken (fun _ _ _ _ => trivial)⟩⟩ rfl rfl hl.1 rfl (lv_room (Nat.le_of_ble_eq_true rfl)) dX3_kindsWith_19 ⟨Nat.le_of_ble_eq_true rfl, Nat.le_of_ble_eq_true rfl⟩) hS (fun q _ h => hFc q h) hFc (fun rz u t H1 locs ht hvm hw hB1 hz1 hk1 hS => ?_)
    obtain ⟨u7, f8⟩ := u
    obtain ⟨hP1, hK1, hD1⟩ := hB1
    rw [ht] at hP1
    have hK1 := va_K.moved hvm.symm hK1
    obtain ⟨r9, rfl⟩ : ∃ z, z = rz := ⟨_, rfl⟩
    subst hw
    dsimp only at h
    obtain ⟨hP, hD⟩ := va_join (wr := []) (w1 := [(h0, .inr (3, [.ref h0_roots, .ref h0_strides, .ref h0_halvesFound])), (h0_roots, .inr (1, [.ref h0_roots_least, .int u7])), (h0_roots_least, .inl (k_t_roots_least, 10007, .inl f8))]) hP hD [0, 1, 2] [] rfl rfl (by decide) (by decide) hk1 hFc hP1 hD1
    generalize H1 = H at hP hS ⊢
    have hP := hP.sub (ws' := [(h0, .inr (3, [.ref h0_roots, .ref h0_strides, .ref h0_halvesFound])), (h0_roots, .inr (1, [.ref h0_roots_least, .int u7])), (h0_roots_least, .inl (k_t_roots_least, 10007, .inl f8))]) [0, 1, 2] rfl
    have hD := hD.sub (ws' := [(h0, .inr (3, [.ref h0_roots, .ref h0_strides, .ref h0_halvesFound])), (h0_roots, .inr (1, [.ref h0_roots_least, .int u7])), (h0_roots_least, .inl (k_t_roots_least, 10007, .inl f8))]) [0, 1, 2] (by decide) rfl
    refine lv_if_le (tgt := 29) hx hb dX3_kindsWith_22 (by decide) (fun c10 => ?_) (fun c10 => ?_)
    · replace h := (if_pos c10).symm.trans h
      refine lv_iconst (v := 0) hx hb dX3_kindsWith_29 (by decide) ?_
      refine lv_iadd hx hb dX3_kindsWith_30 ?_
      refine lv_topi (fun v11 ev11 => ?_)
      replace h := mi_use ev11 h
      refine lv_istore_n (lv' := [(3, .int v11), (0, .ref h0), (1, .int a0), (2, .int a1)]) hx hb dX3_kindsWith_31 rfl hl (by decide) rfl (fun ls hl => ?_)
      refine lv_iconst (v := 1) hx hb dX3_kindsWith_32 (by decide) ?_
      refine lv_istore (lv' := [(4, .int 1), (3, .int v11), (0, .ref h0), (1, .int a0), (2, .int a1)]) hx hb dX3_kindsWith_33 hl (by decide) rfl (fun ls hl => ?_)
      have L35 : ∀ (n : Nat) (x12 : Int32) (x13 : Int32) (x14 : Int32) (x15 : Nat → Int32) (o : Int32 × Int32 × Int32 × (Nat → Int32)), mi_run (mX3_kindsWith_b35 N a0 a1) n (x12, x13, x14, x15) = some o → (∀ (y16 : Int32) (y17 : Int32) (y18 : Int32) (y19 : Nat → Int32), o = (y16, y17, y18, y19) → ∀ (H : Heap) (locs : List Loc) (ls : Array Slot), va_P (dC, dI) vwCl [(h0, .inr (3, [.ref h0_roots, .ref h0_strides, .ref h0_halvesFound])), (h0_roots, .inr (1, [.ref h0_roots_least, .int y18])), (h0_roots_least, .inl (k_t_roots_least, 10007, .inl y19))] H → va_D A [(h0, .inr (3, [.ref h0_roots, .ref h0_strides, .ref h0_halvesFound])), (h0_roots, .inr (1, [.ref h0_roots_least, .int y18])), (h0_roots_least, .inl (k_t_roots_least, 10007, .inl y19))] → va_S A s.heap H locs → lv_has ls 6 [(3, .int y16), (4, .int y17), (0, .ref h0), (1, .int a0), (2, .int a1)] → W p l e (headSpec wsX3_kindsWith rmX3_kindsWith).room s m (([.ref h0, .int a0, .int a1] : List Value).toArray) below meth c H locs 0 0 (MQ below (va_Qi (fun (r : Int32) (u : Int32 × (Nat → Int32)) => (r, u) = rr) (fun (u : Int32 × (Nat → Int32)) t => match u with | (u0, u1) => va_P (dC, dI) vwCl [(h0, .inr (3, [.ref h0_roots, .ref h0_strides, .ref h0_halvesFound])), (h0_roots, .inr (1, [.ref h0_roots_least, .int u0])), (h0_roots_least, .inl (k_t_roots_least, 10007, .inl u1))] t.heap ∧ va_K (dC, dI) vwCl [(k_t_roots_least, .int)] t ∧ va_D (A) [(h0, .inr (3, [.ref h0_roots, .ref h0_strides, .ref h0_halvesFound])), (h0_roots, .inr (1, [.ref h0_roots_least, .int u0])), (h0_roots_least, .inl (k_t_roots_least, 10007, .inl u1))]) (A)) (([.ref h0, .int a0, .int a1] : List Value).toArray) s 0 0 A) (F0 m 94 ls [])) → ∀ (H : Heap) (locs : List Loc) (ls : Array Slot), va_P (dC, dI) vwCl [(h0, .inr (3, [.ref h0_roots, .ref h0_strides, .ref h0_halvesFound])), (h0_roots, .inr (1, [.ref h0_roots_least, .int x14])), (h0_roots_least, .inl (k_t_roots_least, 10007, .inl x15))] H → va_D A [(h0, .inr (3, [.ref h0_roots, .ref h0_strides, .ref h0_halvesFound])), (h0_roots, .inr (1, [.ref h0_roots_least, .int x14])), (h0_roots_least, .inl (k_t_roots_least, 10007, .inl x15))] → va_S A s.heap H locs → lv_has ls 6 [(3, .int x12), (4, .int x13), (0, .ref h0), (1, .int a0), (2, .int a1)] → W p l e (headSpec wsX3_kindsWith rmX3_kindsWith).room s m (([.ref h0, .int a0, .int a1] : List Value).toArray) below meth c H locs 0 0 (MQ below (va_Qi (fun (r : Int32) (u : Int32 × (Nat → Int32)) => (r, u) = rr) (fun (u : Int32 × (Nat → Int32)) t => match u with | (u0, u1) => va_P (dC, dI) vwCl [(h0, .inr (3, [.ref h0_roots, .ref h0_strides, .ref h0_halvesFound])), (h0_roots, .inr (1, [.ref h0_roots_least, .int u0])), (h0_roots_least, .inl (k_t_roots_least, 10007, .inl u1))] t.heap ∧ va_K (dC, dI) vwCl [(k_t_roots_least, .int)] t ∧ va_D (A) [(h0, .inr (3, [.ref h0_roots, .ref h0_strides, .ref h0_halvesFound])), (h0_roots, .inr (1, [.ref h0_roots_least, .int u0])), (h0_roots_least, .inl (k_t_roots_least, 10007, .inl u1))]) (A)) (([.ref h0, .int a0, .int a1] : List Value).toArray) s 0 0 A) (F0 m 35 ls []) := by
        intro n
        induction n with
        | zero => intro x12 x13 x14 x15 o h; exact absurd h (mi_run_0 _ _ _)
        | succ n ih =>
          intro x12 x13 x14 x15 o h hkE H locs ls hP hD hS hl
          obtain ⟨w, h, hA, hB⟩ := mi_run_s h
          dsimp only [mX3_kindsWith_b35] at h
          refine lv_iload hx hb dX3_kindsWith_35 (lv_at hl 1 rfl) ?_
          refine lv_iload_n hx hb dX3_kindsWith_37 rfl (lv_at hl 3 rfl) ?_
          refine lv_iconst (v := 1) hx hb dX3_kindsWith_38 (by decide) ?_
          refine lv_isub hx hb dX3_kindsWith_39 ?_
          refine lv_icmp_ge (tgt := 94) hx hb dX3_kindsWith_40 (by decide) (fun c20 => ?_) (fun c20 => ?_)
          · replace h := (if_pos c20).symm.trans h
            exact hkE _ _ _ _ (hB _ (Option.some.inj h).symm) _ _ ls hP hD hS (lv_sub hl [0, 1, 2, 3, 4] rfl)
          · replace h := (if_neg c20).symm.trans h
            refine lv_aload_n hx hb dX3_kindsWith_43 rfl (lv_at hl 2 rfl) ?_
            refine lv_iload_n hx hb dX3_kindsWith_44 rfl (lv_at hl 3 rfl) ?_
            refine lv_iconst (v := 3) hx hb dX3_kindsWith_45 (by decide) ?_
            refine lv_iload hx hb dX3_kindsWith_46 (lv_at hl 1 rfl) ?_
            refine lv_imul hx hb dX3_kindsWith_48 ?_
            refine lv_iload_n hx hb dX3_kindsWith_49 rfl (lv_at hl 3 rfl) ?_
            have hn21 : ¬ a0 = 0 := fun hz => absurd ((if_pos hz).symm.trans h) (fun hh => nomatch hh)
            replace h := (if_neg hn21).symm.trans h
            refine lv_irem hx hb dX3_kindsWith_50 hn21 ?_
            refine lv_topi (fun v22 ev22 => ?_)
            replace h := mi_use ev22 h
            refine lv_iconst (v := 2) hx hb dX3_kindsWith_51 (by decide) ?_
            refine lv_iload hx hb dX3_kindsWith_52 (lv_at hl 1 rfl) ?_
            refine lv_imul hx hb dX3_kindsWith_54 ?_
            refine lv_iload_n hx hb dX3_kindsWith_55 rfl (lv_at hl 3 rfl) ?_
            have hn23 : ¬ a0 = 0 := fun hz => absurd ((if_pos hz).symm.trans h) (fun hh => nomatch hh)
            replace h := (if_neg hn23).symm.trans h
            refine lv_irem hx hb dX3_kindsWith_56 hn23 ?_
            refine lv_topi (fun v24 ev24 => ?_)
            replace h := mi_use ev24 h
            obtain ⟨r25, hr25, h⟩ := Option.bind_eq_some_iff.mp h
            have hPc := hP.sub (ws' := [(h0, .inr (3, [.ref h0_roots, .ref h0_strides, .ref h0_halvesFound])), (h0_roots, .inr (1, [.ref h0_roots_least, .int x14])), (h0_roots_least, .inl (k_t_roots_least, 10007, .inl x15))]) [0, 1, 2] rfl
            have hDc := hD.sub (ws' := [(h0, .inr (3, [.ref h0_roots, .ref h0_strides, .ref h0_halvesFound])), (h0_roots, .inr (1, [.ref h0_roots_least, .int x14])), (h0_roots_least, .inl (k_t_roots_least, 10007, .inl x15))]) [0, 1, 2] (by decide) rfl
            have hKc := hK.sub (tys' := [(k_t_roots_least, .int)]) [0] rfl
            have hFc := va_free (wc := [(h0, .inr (3, [.ref h0_roots, .ref h0_strides, .ref h0_halvesFound])), (h0_roots, .inr (1, [.ref h0_roots_least, .int x14])), (h0_roots_least, .inl (k_t_roots_least, 10007, .inl x15))]) hD hS hA0 [0, 1, 2] rfl
            refine va_calli (va_runV (As := [.int a0, .int v22, .int v24]) (rest := []) ⟨hx, hb, hml, hown, hts⟩ (ctX3_manyPoints l N dC dI _ h0 h0_roots h0_roots_least h0_strides h0_halvesFound k_t_roots_least x14 x15 a0 v22 v24 r25 hr25) (cwV 3 hts gX3_kindsWith_X3_manyPoints rfl rfl rfl (by decide +kernel) ⟨Nat.le_of_ble_eq_true rfl, Nat.le_of_ble_eq_true rfl⟩) ⟨fun a U g mk q => by obtain ⟨q0, q1, qP, qK, qN, qD⟩ := q; exact ⟨q0, q1, qP, va_K.moved (u := U) (U := U.calling g mk a) (Vm.Alike.refl U.vm) qK, nw_same (u := U) (U := U.calling g mk a) rfl qN, qD⟩, va_recv hKc hPc (ci := 3) (q0 := 0) rfl rfl, fun U hU hW => ⟨rfl, by rw [hU], by rw [hU]; exact hPc, va_K.moved hW.alike hKc, nw_warm hW hN, hDc.weaken (fun _ _ _ _ => trivial)⟩⟩ rfl rfl hl.1 rfl (lv_room (Nat.le_of_ble_eq_true rfl)) dX3_kindsWith_57 ⟨Nat.le_of_ble_eq_true rfl, Nat.le_of_ble_eq_true rfl⟩) hS (fun q _ h => hFc q h) hFc (fun rz u t H1 locs ht hvm hw hB1 hz1 hk1 hS => ?_)
            obtain ⟨u26, f27⟩ := u
            obtain ⟨hP1, hK1, hD1⟩ := hB1
            rw [ht] at hP1
            have hK1 := va_K.moved hvm.symm hK1
            obtain ⟨r28, rfl⟩ : ∃ z, z = rz := ⟨_, rfl⟩
            subst hw
            dsimp only at h
            obtain ⟨hP, hD⟩ := va_join (wr := []) (w1 := [(h0, .inr (3, [.ref h0_roots, .ref h0_strides, .ref h0_halvesFound])), (h0_roots, .inr (1, [.ref h0_roots_least, .int u26])), (h0_roots_least, .inl (k_t_roots_least, 10007, .inl f27))]) hP hD [0, 1, 2] [] rfl rfl (by decide) (by decide) hk1 hFc hP1 hD1
            generalize H1 = H at hP hS ⊢
            have hP := hP.sub (ws' := [(h0, .inr (3, [.ref h0_roots, .ref h0_strides, .ref h0_halvesFound])), (h0_roots, .inr (1, [.ref h0_roots_least, .int u26])), (h0_roots_least, .inl (k_t_roots_least, 10007, .inl f27))]) [0, 1, 2] rfl
            have hD := hD.sub (ws' := [(h0, .inr (3, [.ref h0_roots, .ref h0_strides, .ref h0_halvesFound])), (h0_roots, .inr (1, [.ref h0_roots_least, .int u26])), (h0_roots_least, .inl (k_t_roots_least, 10007, .inl f27))]) [0, 1, 2] (by decide) rfl
            refine lv_istore (lv' := [(5, .int r28), (3, .int x12), (4, .int x13), (0, .ref h0), (1, .int a0), (2, .int a1)]) hx hb dX3_kindsWith_60 hl (by decide) rfl (fun ls hl => ?_)
            refine lv_iload_n hx hb dX3_kindsWith_62 rfl (lv_at hl 1 rfl) ?_
            refine lv_iload hx hb dX3_kindsWith_63 (lv_at hl 0 rfl) ?_
            refine lv_iload_n hx hb dX3_kindsWith_65 rfl (lv_at hl 5 rfl) ?_
            refine lv_icmp_eq (tgt := 81) hx hb dX3_kindsWith_66 (by decide) (fun c29 => ?_) (fun c29 => ?_)
            · replace h := (if_pos c29).symm.trans h
              refine lv_iconst (v := 1) hx hb dX3_kindsWith_81 (by decide) ?_
              refine lv_goto (tgt := 86) hx hb dX3_kindsWith_82 (by decide) ?_
              refine lv_iadd hx hb dX3_kindsWith_86 ?_
              refine lv_topi (fun v30 ev30 => ?_)
              replace h := mi_use ev30 h
              refine lv_istore_n (lv' := [(3, .int v30), (5, .int r28), (4, .int x13), (0, .ref h0), (1, .int a0), (2, .int a1)]) hx hb dX3_kindsWith_87 rfl hl (by decide) rfl (fun ls hl => ?_)
              obtain ⟨v31, ev31⟩ : ∃ z : Int32, z = x13 + 1 := ⟨_, rfl⟩
              refine lv_iinc (v := v31) (lv' := [(4, .int v31), (3, .int v30), (5, .int r28), (0, .ref h0), (1, .int a0), (2, .int a1)]) hx hb dX3_kindsWith_88 hl (k := 2) rfl (by rw [ev31]; rfl) (by decide) rfl (fun ls hl => ?_)
              replace h := mi_use ev31 h
              refine lv_goto (tgt := 35) hx hb dX3_kindsWith_91 (by decide) ?_
              exact ih _ _ _ _ _ (hA _ (Option.some.inj h).symm) hkE _ _ ls hP hD hS (lv_sub hl [1, 0, 3, 4, 5] rfl)
            · replace h := (if_neg c29).symm.trans h
              refine lv_iconst (v := 2) hx hb dX3_kindsWith_69 (by decide) ?_
              refine lv_iload_n hx hb dX3_kindsWith_70 rfl (lv_at hl 4 rfl) ?_
              refine lv_imul hx hb dX3_kindsWith_71 ?_
              refine lv_iconst (v := 2) hx hb dX3_kindsWith_72 (by decide) ?_
              refine lv_iadd hx hb dX3_kindsWith_73 ?_
              refine lv_iload hx hb dX3_kindsWith_74 (lv_at hl 0 rfl) ?_
              refine lv_isub hx hb dX3_kindsWith_76 ?_
              refine lv_iload_n hx hb dX3_kindsWith_77 rfl (lv_at hl 5 rfl) ?_
              refine lv_icmp_ne (tgt := 85) hx hb dX3_kindsWith_78 (by decide) (fun c32 => ?_) (fun c32 => ?_)
              · replace h := (if_neg c32).symm.trans h
                refine lv_iconst (v := 0) hx hb dX3_kindsWith_85 (by decide) ?_
                refine lv_iadd hx hb dX3_kindsWith_86 ?_
                refine lv_topi (fun v33 ev33 => ?_)
                replace h := mi_use ev33 h
                refine lv_istore_n (lv' := [(3, .int v33), (5, .int r28), (4, .int x13), (0, .ref h0), (1, .int a0), (2, .int a1)]) hx hb dX3_kindsWith_87 rfl hl (by decide) rfl (fun ls hl => ?_)
                obtain ⟨v34, ev34⟩ : ∃ z : Int32, z = x13 + 1 := ⟨_, rfl⟩
                refine lv_iinc (v := v34) (lv' := [(4, .int v34), (3, .int v33), (5, .int r28), (0, .ref h0), (1, .int a0), (2, .int a1)]) hx hb dX3_kindsWith_88 hl (k := 2) rfl (by rw [ev34]; rfl) (by decide) rfl (fun ls hl => ?_)
                replace h := mi_use ev34 h
                refine lv_goto (tgt := 35) hx hb dX3_kindsWith_91 (by decide) ?_
                exact ih _ _ _ _ _ (hA _ (Option.some.inj h).symm) hkE _ _ ls hP hD hS (lv_sub hl [1, 0, 3, 4, 5] rfl)
              · replace h := (if_pos c32).symm.trans h
                refine lv_iconst (v := 1) hx hb dX3_kindsWith_81 (by decide) ?_
                refine lv_goto (tgt := 86) hx hb dX3_kindsWith_82 (by decide) ?_
                refine lv_iadd hx hb dX3_kindsWith_86 ?_
                refine lv_topi (fun v35 ev35 => ?_)
                replace h := mi_use ev35 h
                refine lv_istore_n (lv' := [(3, .int v35), (5, .int r28), (4, .int x13), (0, .ref h0), (1, .int a0), (2, .int a1)]) hx hb dX3_kindsWith_87 rfl hl (by decide) rfl (fun ls hl => ?_)
                obtain ⟨v36, ev36⟩ : ∃ z : Int32, z = x13 + 1 := ⟨_, rfl⟩
                refine lv_iinc (v := v36) (lv' := [(4, .int v36), (3, .int v35), (5, .int r28), (0, .ref h0), (1, .int a0), (2, .int a1)]) hx hb dX3_kindsWith_88 hl (k := 2) rfl (by rw [ev36]; rfl) (by decide) rfl (fun ls hl => ?_)
                replace h := mi_use ev36 h
                refine lv_goto (tgt := 35) hx hb dX3_kindsWith_91 (by decide) ?_
                exact ih _ _ _ _ _ (hA _ (Option.some.inj h).symm) hkE _ _ ls hP hD hS (lv_sub hl [1, 0, 3, 4, 5] rfl)
      obtain ⟨o37, ho37, h⟩ := Option.bind_eq_some_iff.mp h
      refine L35 N _ _ _ _ o37 ho37 ?_ _ _ ls hP hD hS (lv_sub hl [1, 0, 2, 3, 4] rfl)
      intro y16 y17 y18 y19 eo H locs ls hP hD hS hl
      subst eo
      dsimp only at h
      refine lv_iload_n hx hb dX3_kindsWith_94 rfl (lv_at hl 0 rfl) ?_
      have hv : (y16, y18, y19) = rr := Option.some.inj h
      have hP9 := hP.sub (ws' := [(h0, .inr (3, [.ref h0_roots, .ref h0_strides, .ref h0_halvesFound])), (h0_roots, .inr (1, [.ref h0_roots_least, .int y18])), (h0_roots_least, .inl (k_t_roots_least, 10007, .inl y19))]) [0, 1, 2] rfl
      have hD9 := hD.sub (ws' := [(h0, .inr (3, [.ref h0_roots, .ref h0_strides, .ref h0_halvesFound])), (h0_roots, .inr (1, [.ref h0_roots_least, .int y18])), (h0_roots_least, .inl (k_t_roots_least, 10007, .inl y19))]) [0, 1, 2] (by decide) rfl
      have hK9 := hK.sub (tys' := [(k_t_roots_least, .int)]) [0] rfl
      exact W.iret (v := y16) hx hb hr (fun t ht hW => ⟨⟨y16, (y18, y19), rfl, hv, by rw [ht]; exact hP9, va_K.moved hW.alike hK9, hD9⟩, hS.F ht⟩) hS.2.2 dX3_kindsWith_95
    · replace h := (if_neg c10).symm.trans h
      refine lv_iconst (v := 1) hx hb dX3_kindsWith_25 (by decide) ?_
      refine lv_goto (tgt := 30) hx hb dX3_kindsWith_26 (by decide) ?_
      refine lv_iadd hx hb dX3_kindsWith_30 ?_
      refine lv_topi (fun v38 ev38 => ?_)
      replace h := mi_use ev38 h
      refine lv_istore_n (lv' := [(3, .int v38), (0, .ref h0), (1, .int a0), (2, .int a1)]) hx hb dX3_kindsWith_31 rfl hl (by decide) rfl (fun ls hl => ?_)
      refine lv_iconst (v := 1) hx hb dX3_kindsWith_32 (by decide) ?_
      refine lv_istore (lv' := [(4, .int 1), (3, .int v38), (0, .ref h0), (1, .int a0), (2, .int a1)]) hx hb dX3_kindsWith_33 hl (by decide) rfl (fun ls hl => ?_)
      have L35 : ∀ (n : Nat) (x39 : Int32) (x40 : Int32) (x41 : Int32) (x42 : Nat → Int32) (o : Int32 × Int32 × Int32 × (Nat → Int32)), mi_run (mX3_kindsWith_b35 N a0 a1) n (x39, x40, x41, x42) = some o → (∀ (y43 : Int32) (y44 : Int32) (y45 : Int32) (y46 : Nat → Int32), o = (y43, y44, y45, y46) → ∀ (H : Heap) (locs : List Loc) (ls : Array Slot), va_P (dC, dI) vwCl [(h0, .inr (3, [.ref h0_roots, .ref h0_strides, .ref h0_halvesFound])), (h0_roots, .inr (1, [.ref h0_roots_least, .int y45])), (h0_roots_least, .inl (k_t_roots_least, 10007, .inl y46))] H → va_D A [(h0, .inr (3, [.ref h0_roots, .ref h0_strides, .ref h0_halvesFound])), (h0_roots, .inr (1, [.ref h0_roots_least, .int y45])), (h0_roots_least, .inl (k_t_roots_least, 10007, .inl y46))] → va_S A s.heap H locs → lv_has ls 6 [(3, .int y43), (4, .int y44), (0, .ref h0), (1, .int a0), (2, .int a1)] → W p l e (headSpec wsX3_kindsWith rmX3_kindsWith).room s m (([.ref h0, .int a0, .int a1] : List Value).toArray) below meth c H locs 0 0 (MQ below (va_Qi (fun (r : Int32) (u : Int32 × (Nat → Int32)) => (r, u) = rr) (fun (u : Int32 × (Nat → Int32)) t => match u with | (u0, u1) => va_P (dC, dI) vwCl [(h0, .inr (3, [.ref h0_roots, .ref h0_strides, .ref h0_halvesFound])), (h0_roots, .inr (1, [.ref h0_roots_least, .int u0])), (h0_roots_least, .inl (k_t_roots_least, 10007, .inl u1))] t.heap ∧ va_K (dC, dI) vwCl [(k_t_roots_least, .int)] t ∧ va_D (A) [(h0, .inr (3, [.ref h0_roots, .ref h0_strides, .ref h0_halvesFound])), (h0_roots, .inr (1, [.ref h0_roots_least, .int u0])), (h0_roots_least, .inl (k_t_roots_least, 10007, .inl u1))]) (A)) (([.ref h0, .int a0, .int a1] : List Value).toArray) s 0 0 A) (F0 m 94 ls [])) → ∀ (H : Heap) (locs : List Loc) (ls : Array Slot), va_P (dC, dI) vwCl [(h0, .inr (3, [.ref h0_roots, .ref h0_strides, .ref h0_halvesFound])), (h0_roots, .inr (1, [.ref h0_roots_least, .int x41])), (h0_roots_least, .inl (k_t_roots_least, 10007, .inl x42))] H → va_D A [(h0, .inr (3, [.ref h0_roots, .ref h0_strides, .ref h0_halvesFound])), (h0_roots, .inr (1, [.ref h0_roots_least, .int x41])), (h0_roots_least, .inl (k_t_roots_least, 10007, .inl x42))] → va_S A s.heap H locs → lv_has ls 6 [(3, .int x39), (4, .int x40), (0, .ref h0), (1, .int a0), (2, .int a1)] → W p l e (headSpec wsX3_kindsWith rmX3_kindsWith).room s m (([.ref h0, .int a0, .int a1] : List Value).toArray) below meth c H locs 0 0 (MQ below (va_Qi (fun (r : Int32) (u : Int32 × (Nat → Int32)) => (r, u) = rr) (fun (u : Int32 × (Nat → Int32)) t => match u with | (u0, u1) => va_P (dC, dI) vwCl [(h0, .inr (3, [.ref h0_roots, .ref h0_strides, .ref h0_halvesFound])), (h0_roots, .inr (1, [.ref h0_roots_least, .int u0])), (h0_roots_least, .inl (k_t_roots_least, 10007, .inl u1))] t.heap ∧ va_K (dC, dI) vwCl [(k_t_roots_least, .int)] t ∧ va_D (A) [(h0, .inr (3, [.ref h0_roots, .ref h0_strides, .ref h0_halvesFound])), (h0_roots, .inr (1, [.ref h0_roots_least, .int u0])), (h0_roots_least, .inl (k_t_roots_least, 10007, .inl u1))]) (A)) (([.ref h0, .int a0, .int a1] : List Value).toArray) s 0 0 A) (F0 m 35 ls []) := by
        intro n
        induction n with
        | zero => intro x39 x40 x41 x42 o h; exact absurd h (mi_run_0 _ _ _)
        | succ n ih =>
          intro x39 x40 x41 x42 o h hkE H locs ls hP hD hS hl
          obtain ⟨w, h, hA, hB⟩ := mi_run_s h
          dsimp only [mX3_kindsWith_b35] at h
          refine lv_iload hx hb dX3_kindsWith_35 (lv_at hl 1 rfl) ?_
          refine lv_iload_n hx hb dX3_kindsWith_37 rfl (lv_at hl 3 rfl) ?_
          refine lv_iconst (v := 1) hx hb dX3_kindsWith_38 (by decide) ?_
          refine lv_isub hx hb dX3_kindsWith_39 ?_
          refine lv_icmp_ge (tgt := 94) hx hb dX3_kindsWith_40 (by decide) (fun c47 => ?_) (fun c47 => ?_)
          · replace h := (if_pos c47).symm.trans h
            exact hkE _ _ _ _ (hB _ (Option.some.inj h).symm) _ _ ls hP hD hS (lv_sub hl [0, 1, 2, 3, 4] rfl)
          · replace h := (if_neg c47).symm.trans h
            refine lv_aload_n hx hb dX3_kindsWith_43 rfl (lv_at hl 2 rfl) ?_
            refine lv_iload_n hx hb dX3_kindsWith_44 rfl (lv_at hl 3 rfl) ?_
            refine lv_iconst (v := 3) hx hb dX3_kindsWith_45 (by decide) ?_
            refine lv_iload hx hb dX3_kindsWith_46 (lv_at hl 1 rfl) ?_
            refine lv_imul hx hb dX3_kindsWith_48 ?_
            refine lv_iload_n hx hb dX3_kindsWith_49 rfl (lv_at hl 3 rfl) ?_
            have hn48 : ¬ a0 = 0 := fun hz => absurd ((if_pos hz).symm.trans h) (fun hh => nomatch hh)
            replace h := (if_neg hn48).symm.trans h
            refine lv_irem hx hb dX3_kindsWith_50 hn48 ?_
            refine lv_topi (fun v49 ev49 => ?_)
            replace h := mi_use ev49 h
            refine lv_iconst (v := 2) hx hb dX3_kindsWith_51 (by decide) ?_
            refine lv_iload hx hb dX3_kindsWith_52 (lv_at hl 1 rfl) ?_
            refine lv_imul hx hb dX3_kindsWith_54 ?_
            refine lv_iload_n hx hb dX3_kindsWith_55 rfl (lv_at hl 3 rfl) ?_
            have hn50 : ¬ a0 = 0 := fun hz => absurd ((if_pos hz).symm.trans h) (fun hh => nomatch hh)
            replace h := (if_neg hn50).symm.trans h
            refine lv_irem hx hb dX3_kindsWith_56 hn50 ?_
            refine lv_topi (fun v51 ev51 => ?_)
            replace h := mi_use ev51 h
            obtain ⟨r52, hr52, h⟩ := Option.bind_eq_some_iff.mp h
            have hPc := hP.sub (ws' := [(h0, .inr (3, [.ref h0_roots, .ref h0_strides, .ref h0_halvesFound])), (h0_roots, .inr (1, [.ref h0_roots_least, .int x41])), (h0_roots_least, .inl (k_t_roots_least, 10007, .inl x42))]) [0, 1, 2] rfl
            have hDc := hD.sub (ws' := [(h0, .inr (3, [.ref h0_roots, .ref h0_strides, .ref h0_halvesFound])), (h0_roots, .inr (1, [.ref h0_roots_least, .int x41])), (h0_roots_least, .inl (k_t_roots_least, 10007, .inl x42))]) [0, 1, 2] (by decide) rfl
            have hKc := hK.sub (tys' := [(k_t_roots_least, .int)]) [0] rfl
            have hFc := va_free (wc := [(h0, .inr (3, [.ref h0_roots, .ref h0_strides, .ref h0_halvesFound])), (h0_roots, .inr (1, [.ref h0_roots_least, .int x41])), (h0_roots_least, .inl (k_t_roots_least, 10007, .inl x42))]) hD hS hA0 [0, 1, 2] rfl
            refine va_calli (va_runV (As := [.int a0, .int v49, .int v51]) (rest := []) ⟨hx, hb, hml, hown, hts⟩ (ctX3_manyPoints l N dC dI _ h0 h0_roots h0_roots_least h0_strides h0_halvesFound k_t_roots_least x41 x42 a0 v49 v51 r52 hr52) (cwV 3 hts gX3_kindsWith_X3_manyPoints rfl rfl rfl (by decide +kernel) ⟨Nat.le_of_ble_eq_true rfl, Nat.le_of_ble_eq_true rfl⟩) ⟨fun a U g mk q => by obtain ⟨q0, q1, qP, qK, qN, qD⟩ := q; exact ⟨q0, q1, qP, va_K.moved (u := U) (U := U.calling g mk a) (Vm.Alike.refl U.vm) qK, nw_same (u := U) (U := U.calling g mk a) rfl qN, qD⟩, va_recv hKc hPc (ci := 3) (q0 := 0) rfl rfl, fun U hU hW => ⟨rfl, by rw [hU], by rw [hU]; exact hPc, va_K.moved hW.alike hKc, nw_warm hW hN, hDc.weaken (fun _ _ _ _ => trivial)⟩⟩ rfl rfl hl.1 rfl (lv_room (Nat.le_of_ble_eq_true rfl)) dX3_kindsWith_57 ⟨Nat.le_of_ble_eq_true rfl, Nat.le_of_ble_eq_true rfl⟩) hS (fun q _ h => hFc q h) hFc (fun rz u t H1 locs ht hvm hw hB1 hz1 hk1 hS => ?_)
            obtain ⟨u53, f54⟩ := u
            obtain ⟨hP1, hK1, hD1⟩ := hB1
            rw [ht] at hP1
            have hK1 := va_K.moved hvm.symm hK1
            obtain ⟨r55, rfl⟩ : ∃ z, z = rz := ⟨_, rfl⟩
            subst hw
            dsimp only at h
            obtain ⟨hP, hD⟩ := va_join (wr := []) (w1 := [(h0, .inr (3, [.ref h0_roots, .ref h0_strides, .ref h0_halvesFound])), (h0_roots, .inr (1, [.ref h0_roots_least, .int u53])), (h0_roots_least, .inl (k_t_roots_least, 10007, .inl f54))]) hP hD [0, 1, 2] [] rfl rfl (by decide) (by decide) hk1 hFc hP1 hD1
            generalize H1 = H at hP hS ⊢
            have hP := hP.sub (ws' := [(h0, .inr (3, [.ref h0_roots, .ref h0_strides, .ref h0_halvesFound])), (h0_roots, .inr (1, [.ref h0_roots_least, .int u53])), (h0_roots_least, .inl (k_t_roots_least, 10007, .inl f54))]) [0, 1, 2] rfl
            have hD := hD.sub (ws' := [(h0, .inr (3, [.ref h0_roots, .ref h0_strides, .ref h0_halvesFound])), (h0_roots, .inr (1, [.ref h0_roots_least, .int u53])), (h0_roots_least, .inl (k_t_roots_least, 10007, .inl f54))]) [0, 1, 2] (by decide) rfl
            refine lv_istore (lv' := [(5, .int r55), (3, .int x39), (4, .int x40), (0, .ref h0), (1, .int a0), (2, .int a1)]) hx hb dX3_kindsWith_60 hl (by decide) rfl (fun ls hl => ?_)
            refine lv_iload_n hx hb dX3_kindsWith_62 rfl (lv_at hl 1 rfl) ?_
            refine lv_iload hx hb dX3_kindsWith_63 (lv_at hl 0 rfl) ?_
            refine lv_iload_n hx hb dX3_kindsWith_65 rfl (lv_at hl 5 rfl) ?_
            refine lv_icmp_eq (tgt := 81) hx hb dX3_kindsWith_66 (by decide) (fun c56 => ?_) (fun c56 => ?_)
            · replace h := (if_pos c56).symm.trans h
              refine lv_iconst (v := 1) hx hb dX3_kindsWith_81 (by decide) ?_
              refine lv_goto (tgt := 86) hx hb dX3_kindsWith_82 (by decide) ?_
              refine lv_iadd hx hb dX3_kindsWith_86 ?_
              refine lv_topi (fun v57 ev57 => ?_)
              replace h := mi_use ev57 h
              refine lv_istore_n (lv' := [(3, .int v57), (5, .int r55), (4, .int x40), (0, .ref h0), (1, .int a0), (2, .int a1)]) hx hb dX3_kindsWith_87 rfl hl (by decide) rfl (fun ls hl => ?_)
              obtain ⟨v58, ev58⟩ : ∃ z : Int32, z = x40 + 1 := ⟨_, rfl⟩
              refine lv_iinc (v := v58) (lv' := [(4, .int v58), (3, .int v57), (5, .int r55), (0, .ref h0), (1, .int a0), (2, .int a1)]) hx hb dX3_kindsWith_88 hl (k := 2) rfl (by rw [ev58]; rfl) (by decide) rfl (fun ls hl => ?_)
              replace h := mi_use ev58 h
              refine lv_goto (tgt := 35) hx hb dX3_kindsWith_91 (by decide) ?_
              exact ih _ _ _ _ _ (hA _ (Option.some.inj h).symm) hkE _ _ ls hP hD hS (lv_sub hl [1, 0, 3, 4, 5] rfl)
            · replace h := (if_neg c56).symm.trans h
              refine lv_iconst (v := 2) hx hb dX3_kindsWith_69 (by decide) ?_
              refine lv_iload_n hx hb dX3_kindsWith_70 rfl (lv_at hl 4 rfl) ?_
              refine lv_imul hx hb dX3_kindsWith_71 ?_
              refine lv_iconst (v := 2) hx hb dX3_kindsWith_72 (by decide) ?_
              refine lv_iadd hx hb dX3_kindsWith_73 ?_
              refine lv_iload hx hb dX3_kindsWith_74 (lv_at hl 0 rfl) ?_
              refine lv_isub hx hb dX3_kindsWith_76 ?_
              refine lv_iload_n hx hb dX3_kindsWith_77 rfl (lv_at hl 5 rfl) ?_
              refine lv_icmp_ne (tgt := 85) hx hb dX3_kindsWith_78 (by decide) (fun c59 => ?_) (fun c59 => ?_)
              · replace h := (if_neg c59).symm.trans h
                refine lv_iconst (v := 0) hx hb dX3_kindsWith_85 (by decide) ?_
                refine lv_iadd hx hb dX3_kindsWith_86 ?_
                refine lv_topi (fun v60 ev60 => ?_)
                replace h := mi_use ev60 h
                refine lv_istore_n (lv' := [(3, .int v60), (5, .int r55), (4, .int x40), (0, .ref h0), (1, .int a0), (2, .int a1)]) hx hb dX3_kindsWith_87 rfl hl (by decide) rfl (fun ls hl => ?_)
                obtain ⟨v61, ev61⟩ : ∃ z : Int32, z = x40 + 1 := ⟨_, rfl⟩
                refine lv_iinc (v := v61) (lv' := [(4, .int v61), (3, .int v60), (5, .int r55), (0, .ref h0), (1, .int a0), (2, .int a1)]) hx hb dX3_kindsWith_88 hl (k := 2) rfl (by rw [ev61]; rfl) (by decide) rfl (fun ls hl => ?_)
                replace h := mi_use ev61 h
                refine lv_goto (tgt := 35) hx hb dX3_kindsWith_91 (by decide) ?_
                exact ih _ _ _ _ _ (hA _ (Option.some.inj h).symm) hkE _ _ ls hP hD hS (lv_sub hl [1, 0, 3, 4, 5] rfl)
              · replace h := (if_pos c59).symm.trans h
                refine lv_iconst (v := 1) hx hb dX3_kindsWith_81 (by decide) ?_
                refine lv_goto (tgt := 86) hx hb dX3_kindsWith_82 (by decide) ?_
                refine lv_iadd hx hb dX3_kindsWith_86 ?_
                refine lv_topi (fun v62 ev62 => ?_)
                replace h := mi_use ev62 h
                refine lv_istore_n (lv' := [(3, .int v62), (5, .int r55), (4, .int x40), (0, .ref h0), (1, .int a0), (2, .int a1)]) hx hb dX3_kindsWith_87 rfl hl (by decide) rfl (fun ls hl => ?_)
                obtain ⟨v63, ev63⟩ : ∃ z : Int32, z = x40 + 1 := ⟨_, rfl⟩
                refine lv_iinc (v := v63) (lv' := [(4, .int v63), (3, .int v62), (5, .int r55), (0, .ref h0), (1, .int a0), (2, .int a1)]) hx hb dX3_kindsWith_88 hl (k := 2) rfl (by rw [ev63]; rfl) (by decide) rfl (fun ls hl => ?_)
                replace h := mi_use ev63 h
                refine lv_goto (tgt := 35) hx hb dX3_kindsWith_91 (by decide) ?_
                exact ih _ _ _ _ _ (hA _ (Option.some.inj h).symm) hkE _ _ ls hP hD hS (lv_sub hl [1, 0, 3, 4, 5] rfl)
      obtain ⟨o64, ho64, h⟩ := Option.bind_eq_some_iff.mp h
      refine L35 N _ _ _ _ o64 ho64 ?_ _ _ ls hP hD hS (lv_sub hl [1, 0, 2, 3, 4] rfl)
      intro y43 y44 y45 y46 eo H locs ls hP hD hS hl
      subst eo
      dsimp only at h
      refine lv_iload_n hx hb dX3_kindsWith_94 rfl (lv_at hl 0 rfl) ?_
      have hv : (y43, y45, y46) = rr := Option.some.inj h
      have hP9 := hP.sub (ws' := [(h0, .inr (3, [.ref h0_roots, .ref h0_strides, .ref h0_halvesFound])), (h0_roots, .inr (1, [.ref h0_roots_least, .int y45])), (h0_roots_least, .inl (k_t_roots_least, 10007, .inl y46))]) [0, 1, 2] rfl
      have hD9 := hD.sub (ws' := [(h0, .inr (3, [.ref h0_roots, .ref h0_strides, .ref h0_halvesFound])), (h0_roots, .inr (1, [.ref h0_roots_least, .int y45])), (h0_roots_least, .inl (k_t_roots_least, 10007, .inl y46))]) [0, 1, 2] (by decide) rfl
      have hK9 := hK.sub (tys' := [(k_t_roots_least, .int)]) [0] rfl
      exact W.iret (v := y43) hx hb hr (fun t ht hW => ⟨⟨y43, (y45, y46), rfl, hv, by rw [ht]; exact hP9, va_K.moved hW.alike hK9, hD9⟩, hS.F ht⟩) hS.2.2 dX3_kindsWith_95
  · replace h := (if_neg c5).symm.trans h
    refine lv_iconst (v := 1) hx hb dX3_kindsWith_9 (by decide) ?_
    refine lv_goto (tgt := 14) hx hb dX3_kindsWith_10 (by decide) ?_
    refine lv_istore_n (lv' := [(3, .int 1), (0, .ref h0), (1, .int a0), (2, .int a1)]) hx hb dX3_kindsWith_14 rfl hl (by decide) rfl (fun ls hl => ?_)
    refine lv_iload_n hx hb dX3_kindsWith_15 rfl (lv_at hl 0 rfl) ?_
    refine lv_aload_n hx hb dX3_kindsWith_16 rfl (lv_at hl 1 rfl) ?_
    refine lv_iload_n hx hb dX3_kindsWith_17 rfl (lv_at hl 2 rfl) ?_
    refine lv_iload_n hx hb dX3_kindsWith_18 rfl (lv_at hl 3 rfl) ?_
    obtain ⟨r65, hr65, h⟩ := Option.bind_eq_some_iff.mp h
    have hPc := hP.sub (ws' := [(h0, .inr (3, [.ref h0_roots, .ref h0_strides, .ref h0_halvesFound])), (h0_roots, .inr (1, [.ref h0_roots_least, .int u2])), (h0_roots_least, .inl (k_t_roots_least, 10007, .inl f3))]) [0, 1, 2] rfl
    have hDc := hD.sub (ws' := [(h0, .inr (3, [.ref h0_roots, .ref h0_strides, .ref h0_halvesFound])), (h0_roots, .inr (1, [.ref h0_roots_least, .int u2])), (h0_roots_least, .inl (k_t_roots_least, 10007, .inl f3))]) [0, 1, 2] (by decide) rfl
    have hKc := hK.sub (tys' := [(k_t_roots_least, .int)]) [0] rfl
    have hFc := va_free (wc := [(h0, .inr (3, [.ref h0_roots, .ref h0_strides, .ref h0_halvesFound])), (h0_roots, .inr (1, [.ref h0_roots_least, .int u2])), (h0_roots_least, .inl (k_t_roots_least, 10007, .inl f3))]) hD hS hA0 [0, 1, 2] rfl
    refine va_calli (va_runV (As := [.int a0, .int a1]) (rest := [.int 1]) ⟨hx, hb, hml, hown, hts⟩ (ctX3_manyWithoutB l N dC dI _ h0 h0_roots h0_roots_least h0_strides h0_halvesFound k_t_roots_least u2 f3 a0 a1 r65 hr65) (cwV 2 hts gX3_kindsWith_X3_manyWithoutB rfl rfl rfl (by decide +kernel) ⟨Nat.le_of_ble_eq_true rfl, Nat.le_of_ble_eq_true rfl⟩) ⟨fun a U g mk q => by obtain ⟨q0, q1, qP, qK, qN, qD⟩ := q; exact ⟨q0, q1, qP, va_K.moved (u := U) (U := U.calling g mk a) (Vm.Alike.refl U.vm) qK, nw_same (u := U) (U := U.calling g mk a) rfl qN, qD⟩, va_recv hKc hPc (ci := 3) (q0 := 0) rfl rfl, fun U hU hW => ⟨rfl, by rw [hU], by rw [hU]; exact hPc, va_K.moved hW.alike hKc, nw_warm hW hN, hDc.weaken (fun _ _ _ _ => trivial)⟩⟩ rfl rfl hl.1 rfl (lv_room (Nat.le_of_ble_eq_true rfl)) dX3_kindsWith_19 ⟨Nat.le_of_ble_eq_true rfl, Nat.le_of_ble_eq_true rfl⟩) hS (fun q _ h => hFc q h) hFc (fun rz u t H1 locs ht hvm hw hB1 hz1 hk1 hS => ?_)
    obtain ⟨u66, f67⟩ := u
    obtain ⟨hP1, hK1, hD1⟩ := hB1
    rw [ht] at hP1
    have hK1 := va_K.moved hvm.symm hK1
    obtain ⟨r68, rfl⟩ : ∃ z, z = rz := ⟨_, rfl⟩
    subst hw
    dsimp only at h
    obtain ⟨hP, hD⟩ := va_join (wr := []) (w1 := [(h0, .inr (3, [.ref h0_roots, .ref h0_strides, .ref h0_halvesFound])), (h0_roots, .inr (1, [.ref h0_roots_least, .int u66])), (h0_roots_least, .inl (k_t_roots_least, 10007, .inl f67))]) hP hD [0, 1, 2] [] rfl rfl (by decide) (by decide) hk1 hFc hP1 hD1
    generalize H1 = H at hP hS ⊢
    have hP := hP.sub (ws' := [(h0, .inr (3, [.ref h0_roots, .ref h0_strides, .ref h0_halvesFound])), (h0_roots, .inr (1, [.ref h0_roots_least, .int u66])), (h0_roots_least, .inl (k_t_roots_least, 10007, .inl f67))]) [0, 1, 2] rfl
    have hD := hD.sub (ws' := [(h0, .inr (3, [.ref h0_roots, .ref h0_strides, .ref h0_halvesFound])), (h0_roots, .inr (1, [.ref h0_roots_least, .int u66])), (h0_roots_least, .inl (k_t_roots_least, 10007, .inl f67))]) [0, 1, 2] (by decide) rfl
    refine lv_if_le (tgt := 29) hx hb dX3_kindsWith_22 (by decide) (fun c69 => ?_) (fun c69 => ?_)
    · replace h := (if_pos c69).symm.trans h
      refine lv_iconst (v := 0) hx hb dX3_kindsWith_29 (by decide) ?_
      refine lv_iadd hx hb dX3_kindsWith_30 ?_
      refine lv_topi (fun v70 ev70 => ?_)
      replace h := mi_use ev70 h
      refine lv_istore_n (lv' := [(3, .int v70), (0, .ref h0), (1, .int a0), (2, .int a1)]) hx hb dX3_kindsWith_31 rfl hl (by decide) rfl (fun ls hl => ?_)
      refine lv_iconst (v := 1) hx hb dX3_kindsWith_32 (by decide) ?_
      refine lv_istore (lv' := [(4, .int 1), (3, .int v70), (0, .ref h0), (1, .int a0), (2, .int a1)]) hx hb dX3_kindsWith_33 hl (by decide) rfl (fun ls hl => ?_)
      have L35 : ∀ (n : Nat) (x71 : Int32) (x72 : Int32) (x73 : Int32) (x74 : Nat → Int32) (o : Int32 × Int32 × Int32 × (Nat → Int32)), mi_run (mX3_kindsWith_b35 N a0 a1) n (x71, x72, x73, x74) = some o → (∀ (y75 : Int32) (y76 : Int32) (y77 : Int32) (y78 : Nat → Int32), o = (y75, y76, y77, y78) → ∀ (H : Heap) (locs : List Loc) (ls : Array Slot), va_P (dC, dI) vwCl [(h0, .inr (3, [.ref h0_roots, .ref h0_strides, .ref h0_halvesFound])), (h0_roots, .inr (1, [.ref h0_roots_least, .int y77])), (h0_roots_least, .inl (k_t_roots_least, 10007, .inl y78))] H → va_D A [(h0, .inr (3, [.ref h0_roots, .ref h0_strides, .ref h0_halvesFound])), (h0_roots, .inr (1, [.ref h0_roots_least, .int y77])), (h0_roots_least, .inl (k_t_roots_least, 10007, .inl y78))] → va_S A s.heap H locs → lv_has ls 6 [(3, .int y75), (4, .int y76), (0, .ref h0), (1, .int a0), (2, .int a1)] → W p l e (headSpec wsX3_kindsWith rmX3_kindsWith).room s m (([.ref h0, .int a0, .int a1] : List Value).toArray) below meth c H locs 0 0 (MQ below (va_Qi (fun (r : Int32) (u : Int32 × (Nat → Int32)) => (r, u) = rr) (fun (u : Int32 × (Nat → Int32)) t => match u with | (u0, u1) => va_P (dC, dI) vwCl [(h0, .inr (3, [.ref h0_roots, .ref h0_strides, .ref h0_halvesFound])), (h0_roots, .inr (1, [.ref h0_roots_least, .int u0])), (h0_roots_least, .inl (k_t_roots_least, 10007, .inl u1))] t.heap ∧ va_K (dC, dI) vwCl [(k_t_roots_least, .int)] t ∧ va_D (A) [(h0, .inr (3, [.ref h0_roots, .ref h0_strides, .ref h0_halvesFound])), (h0_roots, .inr (1, [.ref h0_roots_least, .int u0])), (h0_roots_least, .inl (k_t_roots_least, 10007, .inl u1))]) (A)) (([.ref h0, .int a0, .int a1] : List Value).toArray) s 0 0 A) (F0 m 94 ls [])) → ∀ (H : Heap) (locs : List Loc) (ls : Array Slot), va_P (dC, dI) vwCl [(h0, .inr (3, [.ref h0_roots, .ref h0_strides, .ref h0_halvesFound])), (h0_roots, .inr (1, [.ref h0_roots_least, .int x73])), (h0_roots_least, .inl (k_t_roots_least, 10007, .inl x74))] H → va_D A [(h0, .inr (3, [.ref h0_roots, .ref h0_strides, .ref h0_halvesFound])), (h0_roots, .inr (1, [.ref h0_roots_least, .int x73])), (h0_roots_least, .inl (k_t_roots_least, 10007, .inl x74))] → va_S A s.heap H locs → lv_has ls 6 [(3, .int x71), (4, .int x72), (0, .ref h0), (1, .int a0), (2, .int a1)] → W p l e (headSpec wsX3_kindsWith rmX3_kindsWith).room s m (([.ref h0, .int a0, .int a1] : List Value).toArray) below meth c H locs 0 0 (MQ below (va_Qi (fun (r : Int32) (u : Int32 × (Nat → Int32)) => (r, u) = rr) (fun (u : Int32 × (Nat → Int32)) t => match u with | (u0, u1) => va_P (dC, dI) vwCl [(h0, .inr (3, [.ref h0_roots, .ref h0_strides, .ref h0_halvesFound])), (h0_roots, .inr (1, [.ref h0_roots_least, .int u0])), (h0_roots_least, .inl (k_t_roots_least, 10007, .inl u1))] t.heap ∧ va_K (dC, dI) vwCl [(k_t_roots_least, .int)] t ∧ va_D (A) [(h0, .inr (3, [.ref h0_roots, .ref h0_strides, .ref h0_halvesFound])), (h0_roots, .inr (1, [.ref h0_roots_least, .int u0])), (h0_roots_least, .inl (k_t_roots_least, 10007, .inl u1))]) (A)) (([.ref h0, .int a0, .int a1] : List Value).toArray) s 0 0 A) (F0 m 35 ls []) := by
        intro n
        induction n with
        | zero => intro x71 x72 x73 x74 o h; exact absurd h (mi_run_0 _ _ _)
        | succ n ih =>
          intro x71 x72 x73 x74 o h hkE H locs ls hP hD hS hl
          obtain ⟨w, h, hA, hB⟩ := mi_run_s h
          dsimp only [mX3_kindsWith_b35] at h
          refine lv_iload hx hb dX3_kindsWith_35 (lv_at hl 1 rfl) ?_
          refine lv_iload_n hx hb dX3_kindsWith_37 rfl (lv_at hl 3 rfl) ?_
          refine lv_iconst (v := 1) hx hb dX3_kindsWith_38 (by decide) ?_
          refine lv_isub hx hb dX3_kindsWith_39 ?_
          refine lv_icmp_ge (tgt := 94) hx hb dX3_kindsWith_40 (by decide) (fun c79 => ?_) (fun c79 => ?_)
          · replace h := (if_pos c79).symm.trans h
            exact hkE _ _ _ _ (hB _ (Option.some.inj h).symm) _ _ ls hP hD hS (lv_sub hl [0, 1, 2, 3, 4] rfl)
          · replace h := (if_neg c79).symm.trans h
            refine lv_aload_n hx hb dX3_kindsWith_43 rfl (lv_at hl 2 rfl) ?_
            refine lv_iload_n hx hb dX3_kindsWith_44 rfl (lv_at hl 3 rfl) ?_
            refine lv_iconst (v := 3) hx hb dX3_kindsWith_45 (by decide) ?_
            refine lv_iload hx hb dX3_kindsWith_46 (lv_at hl 1 rfl) ?_
            refine lv_imul hx hb dX3_kindsWith_48 ?_
            refine lv_iload_n hx hb dX3_kindsWith_49 rfl (lv_at hl 3 rfl) ?_
            have hn80 : ¬ a0 = 0 := fun hz => absurd ((if_pos hz).symm.trans h) (fun hh => nomatch hh)
            replace h := (if_neg hn80).symm.trans h
            refine lv_irem hx hb dX3_kindsWith_50 hn80 ?_
            refine lv_topi (fun v81 ev81 => ?_)
            replace h := mi_use ev81 h
            refine lv_iconst (v := 2) hx hb dX3_kindsWith_51 (by decide) ?_
            refine lv_iload hx hb dX3_kindsWith_52 (lv_at hl 1 rfl) ?_
            refine lv_imul hx hb dX3_kindsWith_54 ?_
            refine lv_iload_n hx hb dX3_kindsWith_55 rfl (lv_at hl 3 rfl) ?_
            have hn82 : ¬ a0 = 0 := fun hz => absurd ((if_pos hz).symm.trans h) (fun hh => nomatch hh)
            replace h := (if_neg hn82).symm.trans h
            refine lv_irem hx hb dX3_kindsWith_56 hn82 ?_
            refine lv_topi (fun v83 ev83 => ?_)
            replace h := mi_use ev83 h
            obtain ⟨r84, hr84, h⟩ := Option.bind_eq_some_iff.mp h
            have hPc := hP.sub (ws' := [(h0, .inr (3, [.ref h0_roots, .ref h0_strides, .ref h0_halvesFound])), (h0_roots, .inr (1, [.ref h0_roots_least, .int x73])), (h0_roots_least, .inl (k_t_roots_least, 10007, .inl x74))]) [0, 1, 2] rfl
            have hDc := hD.sub (ws' := [(h0, .inr (3, [.ref h0_roots, .ref h0_strides, .ref h0_halvesFound])), (h0_roots, .inr (1, [.ref h0_roots_least, .int x73])), (h0_roots_least, .inl (k_t_roots_least, 10007, .inl x74))]) [0, 1, 2] (by decide) rfl
            have hKc := hK.sub (tys' := [(k_t_roots_least, .int)]) [0] rfl
            have hFc := va_free (wc := [(h0, .inr (3, [.ref h0_roots, .ref h0_strides, .ref h0_halvesFound])), (h0_roots, .inr (1, [.ref h0_roots_least, .int x73])), (h0_roots_least, .inl (k_t_roots_least, 10007, .inl x74))]) hD hS hA0 [0, 1, 2] rfl
            refine va_calli (va_runV (As := [.int a0, .int v81, .int v83]) (rest := []) ⟨hx, hb, hml, hown, hts⟩ (ctX3_manyPoints l N dC dI _ h0 h0_roots h0_roots_least h0_strides h0_halvesFound k_t_roots_least x73 x74 a0 v81 v83 r84 hr84) (cwV 3 hts gX3_kindsWith_X3_manyPoints rfl rfl rfl (by decide +kernel) ⟨Nat.le_of_ble_eq_true rfl, Nat.le_of_ble_eq_true rfl⟩) ⟨fun a U g mk q => by obtain ⟨q0, q1, qP, qK, qN, qD⟩ := q; exact ⟨q0, q1, qP, va_K.moved (u := U) (U := U.calling g mk a) (Vm.Alike.refl U.vm) qK, nw_same (u := U) (U := U.calling g mk a) rfl qN, qD⟩, va_recv hKc hPc (ci := 3) (q0 := 0) rfl rfl, fun U hU hW => ⟨rfl, by rw [hU], by rw [hU]; exact hPc, va_K.moved hW.alike hKc, nw_warm hW hN, hDc.weaken (fun _ _ _ _ => trivial)⟩⟩ rfl rfl hl.1 rfl (lv_room (Nat.le_of_ble_eq_true rfl)) dX3_kindsWith_57 ⟨Nat.le_of_ble_eq_true rfl, Nat.le_of_ble_eq_true rfl⟩) hS (fun q _ h => hFc q h) hFc (fun rz u t H1 locs ht hvm hw hB1 hz1 hk1 hS => ?_)
            obtain ⟨u85, f86⟩ := u
            obtain ⟨hP1, hK1, hD1⟩ := hB1
            rw [ht] at hP1
            have hK1 := va_K.moved hvm.symm hK1
            obtain ⟨r87, rfl⟩ : ∃ z, z = rz := ⟨_, rfl⟩
            subst hw
            dsimp only at h
            obtain ⟨hP, hD⟩ := va_join (wr := []) (w1 := [(h0, .inr (3, [.ref h0_roots, .ref h0_strides, .ref h0_halvesFound])), (h0_roots, .inr (1, [.ref h0_roots_least, .int u85])), (h0_roots_least, .inl (k_t_roots_least, 10007, .inl f86))]) hP hD [0, 1, 2] [] rfl rfl (by decide) (by decide) hk1 hFc hP1 hD1
            generalize H1 = H at hP hS ⊢
            have hP := hP.sub (ws' := [(h0, .inr (3, [.ref h0_roots, .ref h0_strides, .ref h0_halvesFound])), (h0_roots, .inr (1, [.ref h0_roots_least, .int u85])), (h0_roots_least, .inl (k_t_roots_least, 10007, .inl f86))]) [0, 1, 2] rfl
            have hD := hD.sub (ws' := [(h0, .inr (3, [.ref h0_roots, .ref h0_strides, .ref h0_halvesFound])), (h0_roots, .inr (1, [.ref h0_roots_least, .int u85])), (h0_roots_least, .inl (k_t_roots_least, 10007, .inl f86))]) [0, 1, 2] (by decide) rfl
            refine lv_istore (lv' := [(5, .int r87), (3, .int x71), (4, .int x72), (0, .ref h0), (1, .int a0), (2, .int a1)]) hx hb dX3_kindsWith_60 hl (by decide) rfl (fun ls hl => ?_)
            refine lv_iload_n hx hb dX3_kindsWith_62 rfl (lv_at hl 1 rfl) ?_
            refine lv_iload hx hb dX3_kindsWith_63 (lv_at hl 0 rfl) ?_
            refine lv_iload_n hx hb dX3_kindsWith_65 rfl (lv_at hl 5 rfl) ?_
            refine lv_icmp_eq (tgt := 81) hx hb dX3_kindsWith_66 (by decide) (fun c88 => ?_) (fun c88 => ?_)
            · replace h := (if_pos c88).symm.trans h
              refine lv_iconst (v := 1) hx hb dX3_kindsWith_81 (by decide) ?_
              refine lv_goto (tgt := 86) hx hb dX3_kindsWith_82 (by decide) ?_
              refine lv_iadd hx hb dX3_kindsWith_86 ?_
              refine lv_topi (fun v89 ev89 => ?_)
              replace h := mi_use ev89 h
              refine lv_istore_n (lv' := [(3, .int v89), (5, .int r87), (4, .int x72), (0, .ref h0), (1, .int a0), (2, .int a1)]) hx hb dX3_kindsWith_87 rfl hl (by decide) rfl (fun ls hl => ?_)
              obtain ⟨v90, ev90⟩ : ∃ z : Int32, z = x72 + 1 := ⟨_, rfl⟩
              refine lv_iinc (v := v90) (lv' := [(4, .int v90), (3, .int v89), (5, .int r87), (0, .ref h0), (1, .int a0), (2, .int a1)]) hx hb dX3_kindsWith_88 hl (k := 2) rfl (by rw [ev90]; rfl) (by decide) rfl (fun ls hl => ?_)
              replace h := mi_use ev90 h
              refine lv_goto (tgt := 35) hx hb dX3_kindsWith_91 (by decide) ?_
              exact ih _ _ _ _ _ (hA _ (Option.some.inj h).symm) hkE _ _ ls hP hD hS (lv_sub hl [1, 0, 3, 4, 5] rfl)
            · replace h := (if_neg c88).symm.trans h
              refine lv_iconst (v := 2) hx hb dX3_kindsWith_69 (by decide) ?_
              refine lv_iload_n hx hb dX3_kindsWith_70 rfl (lv_at hl 4 rfl) ?_
              refine lv_imul hx hb dX3_kindsWith_71 ?_
              refine lv_iconst (v := 2) hx hb dX3_kindsWith_72 (by decide) ?_
              refine lv_iadd hx hb dX3_kindsWith_73 ?_
              refine lv_iload hx hb dX3_kindsWith_74 (lv_at hl 0 rfl) ?_
              refine lv_isub hx hb dX3_kindsWith_76 ?_
              refine lv_iload_n hx hb dX3_kindsWith_77 rfl (lv_at hl 5 rfl) ?_
              refine lv_icmp_ne (tgt := 85) hx hb dX3_kindsWith_78 (by decide) (fun c91 => ?_) (fun c91 => ?_)
              · replace h := (if_neg c91).symm.trans h
                refine lv_iconst (v := 0) hx hb dX3_kindsWith_85 (by decide) ?_
                refine lv_iadd hx hb dX3_kindsWith_86 ?_
                refine lv_topi (fun v92 ev92 => ?_)
                replace h := mi_use ev92 h
                refine lv_istore_n (lv' := [(3, .int v92), (5, .int r87), (4, .int x72), (0, .ref h0), (1, .int a0), (2, .int a1)]) hx hb dX3_kindsWith_87 rfl hl (by decide) rfl (fun ls hl => ?_)
                obtain ⟨v93, ev93⟩ : ∃ z : Int32, z = x72 + 1 := ⟨_, rfl⟩
                refine lv_iinc (v := v93) (lv' := [(4, .int v93), (3, .int v92), (5, .int r87), (0, .ref h0), (1, .int a0), (2, .int a1)]) hx hb dX3_kindsWith_88 hl (k := 2) rfl (by rw [ev93]; rfl) (by decide) rfl (fun ls hl => ?_)
                replace h := mi_use ev93 h
                refine lv_goto (tgt := 35) hx hb dX3_kindsWith_91 (by decide) ?_
                exact ih _ _ _ _ _ (hA _ (Option.some.inj h).symm) hkE _ _ ls hP hD hS (lv_sub hl [1, 0, 3, 4, 5] rfl)
              · replace h := (if_pos c91).symm.trans h
                refine lv_iconst (v := 1) hx hb dX3_kindsWith_81 (by decide) ?_
                refine lv_goto (tgt := 86) hx hb dX3_kindsWith_82 (by decide) ?_
                refine lv_iadd hx hb dX3_kindsWith_86 ?_
                refine lv_topi (fun v94 ev94 => ?_)
                replace h := mi_use ev94 h
                refine lv_istore_n (lv' := [(3, .int v94), (5, .int r87), (4, .int x72), (0, .ref h0), (1, .int a0), (2, .int a1)]) hx hb dX3_kindsWith_87 rfl hl (by decide) rfl (fun ls hl => ?_)
                obtain ⟨v95, ev95⟩ : ∃ z : Int32, z = x72 + 1 := ⟨_, rfl⟩
                refine lv_iinc (v := v95) (lv' := [(4, .int v95), (3, .int v94), (5, .int r87), (0, .ref h0), (1, .int a0), (2, .int a1)]) hx hb dX3_kindsWith_88 hl (k := 2) rfl (by rw [ev95]; rfl) (by decide) rfl (fun ls hl => ?_)
                replace h := mi_use ev95 h
                refine lv_goto (tgt := 35) hx hb dX3_kindsWith_91 (by decide) ?_
                exact ih _ _ _ _ _ (hA _ (Option.some.inj h).symm) hkE _ _ ls hP hD hS (lv_sub hl [1, 0, 3, 4, 5] rfl)
      obtain ⟨o96, ho96, h⟩ := Option.bind_eq_some_iff.mp h
      refine L35 N _ _ _ _ o96 ho96 ?_ _ _ ls hP hD hS (lv_sub hl [1, 0, 2, 3, 4] rfl)
      intro y75 y76 y77 y78 eo H locs ls hP hD hS hl
      subst eo
      dsimp only at h
      refine lv_iload_n hx hb dX3_kindsWith_94 rfl (lv_at hl 0 rfl) ?_
      have hv : (y75, y77, y78) = rr := Option.some.inj h
      have hP9 := hP.sub (ws' := [(h0, .inr (3, [.ref h0_roots, .ref h0_strides, .ref h0_halvesFound])), (h0_roots, .inr (1, [.ref h0_roots_least, .int y77])), (h0_roots_least, .inl (k_t_roots_least, 10007, .inl y78))]) [0, 1, 2] rfl
      have hD9 := hD.sub (ws' := [(h0, .inr (3, [.ref h0_roots, .ref h0_strides, .ref h0_halvesFound])), (h0_roots, .inr (1, [.ref h0_roots_least, .int y77])), (h0_roots_least, .inl (k_t_roots_least, 10007, .inl y78))]) [0, 1, 2] (by decide) rfl
      have hK9 := hK.sub (tys' := [(k_t_roots_least, .int)]) [0] rfl
      exact W.iret (v := y75) hx hb hr (fun t ht hW => ⟨⟨y75, (y77, y78), rfl, hv, by rw [ht]; exact hP9, va_K.moved hW.alike hK9, hD9⟩, hS.F ht⟩) hS.2.2 dX3_kindsWith_95
    · replace h := (if_neg c69).symm.trans h
      refine lv_iconst (v := 1) hx hb dX3_kindsWith_25 (by decide) ?_
      refine lv_goto (tgt := 30) hx hb dX3_kindsWith_26 (by decide) ?_
      refine lv_iadd hx hb dX3_kindsWith_30 ?_
      refine lv_topi (fun v97 ev97 => ?_)
      replace h := mi_use ev97 h
      refine lv_istore_n (lv' := [(3, .int v97), (0, .ref h0), (1, .int a0), (2, .int a1)]) hx hb dX3_kindsWith_31 rfl hl (by decide) rfl (fun ls hl => ?_)
      refine lv_iconst (v := 1) hx hb dX3_kindsWith_32 (by decide) ?_
      refine lv_istore (lv' := [(4, .int 1), (3, .int v97), (0, .ref h0), (1, .int a0), (2, .int a1)]) hx hb dX3_kindsWith_33 hl (by decide) rfl (fun ls hl => ?_)
      have L35 : ∀ (n : Nat) (x98 : Int32) (x99 : Int32) (x100 : Int32) (x101 : Nat → Int32) (o : Int32 × Int32 × Int32 × (Nat → Int32)), mi_run (mX3_kindsWith_b35 N a0 a1) n (x98, x99, x100, x101) = some o → (∀ (y102 : Int32) (y103 : Int32) (y104 : Int32) (y105 : Nat → Int32), o = (y102, y103, y104, y105) → ∀ (H : Heap) (locs : List Loc) (ls : Array Slot), va_P (dC, dI) vwCl [(h0, .inr (3, [.ref h0_roots, .ref h0_strides, .ref h0_halvesFound])), (h0_roots, .inr (1, [.ref h0_roots_least, .int y104])), (h0_roots_least, .inl (k_t_roots_least, 10007, .inl y105))] H → va_D A [(h0, .inr (3, [.ref h0_roots, .ref h0_strides, .ref h0_halvesFound])), (h0_roots, .inr (1, [.ref h0_roots_least, .int y104])), (h0_roots_least, .inl (k_t_roots_least, 10007, .inl y105))] → va_S A s.heap H locs → lv_has ls 6 [(3, .int y102), (4, .int y103), (0, .ref h0), (1, .int a0), (2, .int a1)] → W p l e (headSpec wsX3_kindsWith rmX3_kindsWith).room s m (([.ref h0, .int a0, .int a1] : List Value).toArray) below meth c H locs 0 0 (MQ below (va_Qi (fun (r : Int32) (u : Int32 × (Nat → Int32)) => (r, u) = rr) (fun (u : Int32 × (Nat → Int32)) t => match u with | (u0, u1) => va_P (dC, dI) vwCl [(h0, .inr (3, [.ref h0_roots, .ref h0_strides, .ref h0_halvesFound])), (h0_roots, .inr (1, [.ref h0_roots_least, .int u0])), (h0_roots_least, .inl (k_t_roots_least, 10007, .inl u1))] t.heap ∧ va_K (dC, dI) vwCl [(k_t_roots_least, .int)] t ∧ va_D (A) [(h0, .inr (3, [.ref h0_roots, .ref h0_strides, .ref h0_halvesFound])), (h0_roots, .inr (1, [.ref h0_roots_least, .int u0])), (h0_roots_least, .inl (k_t_roots_least, 10007, .inl u1))]) (A)) (([.ref h0, .int a0, .int a1] : List Value).toArray) s 0 0 A) (F0 m 94 ls [])) → ∀ (H : Heap) (locs : List Loc) (ls : Array Slot), va_P (dC, dI) vwCl [(h0, .inr (3, [.ref h0_roots, .ref h0_strides, .ref h0_halvesFound])), (h0_roots, .inr (1, [.ref h0_roots_least, .int x100])), (h0_roots_least, .inl (k_t_roots_least, 10007, .inl x101))] H → va_D A [(h0, .inr (3, [.ref h0_roots, .ref h0_strides, .ref h0_halvesFound])), (h0_roots, .inr (1, [.ref h0_roots_least, .int x100])), (h0_roots_least, .inl (k_t_roots_least, 10007, .inl x101))] → va_S A s.heap H locs → lv_has ls 6 [(3, .int x98), (4, .int x99), (0, .ref h0), (1, .int a0), (2, .int a1)] → W p l e (headSpec wsX3_kindsWith rmX3_kindsWith).room s m (([.ref h0, .int a0, .int a1] : List Value).toArray) below meth c H locs 0 0 (MQ below (va_Qi (fun (r : Int32) (u : Int32 × (Nat → Int32)) => (r, u) = rr) (fun (u : Int32 × (Nat → Int32)) t => match u with | (u0, u1) => va_P (dC, dI) vwCl [(h0, .inr (3, [.ref h0_roots, .ref h0_strides, .ref h0_halvesFound])), (h0_roots, .inr (1, [.ref h0_roots_least, .int u0])), (h0_roots_least, .inl (k_t_roots_least, 10007, .inl u1))] t.heap ∧ va_K (dC, dI) vwCl [(k_t_roots_least, .int)] t ∧ va_D (A) [(h0, .inr (3, [.ref h0_roots, .ref h0_strides, .ref h0_halvesFound])), (h0_roots, .inr (1, [.ref h0_roots_least, .int u0])), (h0_roots_least, .inl (k_t_roots_least, 10007, .inl u1))]) (A)) (([.ref h0, .int a0, .int a1] : List Value).toArray) s 0 0 A) (F0 m 35 ls []) := by
        intro n
        induction n with
        | zero => intro x98 x99 x100 x101 o h; exact absurd h (mi_run_0 _ _ _)
        | succ n ih =>
          intro x98 x99 x100 x101 o h hkE H locs ls hP hD hS hl
          obtain ⟨w, h, hA, hB⟩ := mi_run_s h
          dsimp only [mX3_kindsWith_b35] at h
          refine lv_iload hx hb dX3_kindsWith_35 (lv_at hl 1 rfl) ?_
          refine lv_iload_n hx hb dX3_kindsWith_37 rfl (lv_at hl 3 rfl) ?_
          refine lv_iconst (v := 1) hx hb dX3_kindsWith_38 (by decide) ?_
          refine lv_isub hx hb dX3_kindsWith_39 ?_
          refine lv_icmp_ge (tgt := 94) hx hb dX3_kindsWith_40 (by decide) (fun c106 => ?_) (fun c106 => ?_)
          · replace h := (if_pos c106).symm.trans h
            exact hkE _ _ _ _ (hB _ (Option.some.inj h).symm) _ _ ls hP hD hS (lv_sub hl [0, 1, 2, 3, 4] rfl)
          · replace h := (if_neg c106).symm.trans h
            refine lv_aload_n hx hb dX3_kindsWith_43 rfl (lv_at hl 2 rfl) ?_
            refine lv_iload_n hx hb dX3_kindsWith_44 rfl (lv_at hl 3 rfl) ?_
            refine lv_iconst (v := 3) hx hb dX3_kindsWith_45 (by decide) ?_
            refine lv_iload hx hb dX3_kindsWith_46 (lv_at hl 1 rfl) ?_
            refine lv_imul hx hb dX3_kindsWith_48 ?_
            refine lv_iload_n hx hb dX3_kindsWith_49 rfl (lv_at hl 3 rfl) ?_
            have hn107 : ¬ a0 = 0 := fun hz => absurd ((if_pos hz).symm.trans h) (fun hh => nomatch hh)
            replace h := (if_neg hn107).symm.trans h
            refine lv_irem hx hb dX3_kindsWith_50 hn107 ?_
            refine lv_topi (fun v108 ev108 => ?_)
            replace h := mi_use ev108 h
            refine lv_iconst (v := 2) hx hb dX3_kindsWith_51 (by decide) ?_
            refine lv_iload hx hb dX3_kindsWith_52 (lv_at hl 1 rfl) ?_
            refine lv_imul hx hb dX3_kindsWith_54 ?_
            refine lv_iload_n hx hb dX3_kindsWith_55 rfl (lv_at hl 3 rfl) ?_
            have hn109 : ¬ a0 = 0 := fun hz => absurd ((if_pos hz).symm.trans h) (fun hh => nomatch hh)
            replace h := (if_neg hn109).symm.trans h
            refine lv_irem hx hb dX3_kindsWith_56 hn109 ?_
            refine lv_topi (fun v110 ev110 => ?_)
            replace h := mi_use ev110 h
            obtain ⟨r111, hr111, h⟩ := Option.bind_eq_some_iff.mp h
            have hPc := hP.sub (ws' := [(h0, .inr (3, [.ref h0_roots, .ref h0_strides, .ref h0_halvesFound])), (h0_roots, .inr (1, [.ref h0_roots_least, .int x100])), (h0_roots_least, .inl (k_t_roots_least, 10007, .inl x101))]) [0, 1, 2] rfl
            have hDc := hD.sub (ws' := [(h0, .inr (3, [.ref h0_roots, .ref h0_strides, .ref h0_halvesFound])), (h0_roots, .inr (1, [.ref h0_roots_least, .int x100])), (h0_roots_least, .inl (k_t_roots_least, 10007, .inl x101))]) [0, 1, 2] (by decide) rfl
            have hKc := hK.sub (tys' := [(k_t_roots_least, .int)]) [0] rfl
            have hFc := va_free (wc := [(h0, .inr (3, [.ref h0_roots, .ref h0_strides, .ref h0_halvesFound])), (h0_roots, .inr (1, [.ref h0_roots_least, .int x100])), (h0_roots_least, .inl (k_t_roots_least, 10007, .inl x101))]) hD hS hA0 [0, 1, 2] rfl
            refine va_calli (va_runV (As := [.int a0, .int v108, .int v110]) (rest := []) ⟨hx, hb, hml, hown, hts⟩ (ctX3_manyPoints l N dC dI _ h0 h0_roots h0_roots_least h0_strides h0_halvesFound k_t_roots_least x100 x101 a0 v108 v110 r111 hr111) (cwV 3 hts gX3_kindsWith_X3_manyPoints rfl rfl rfl (by decide +kernel) ⟨Nat.le_of_ble_eq_true rfl, Nat.le_of_ble_eq_true rfl⟩) ⟨fun a U g mk q => by obtain ⟨q0, q1, qP, qK, qN, qD⟩ := q; exact ⟨q0, q1, qP, va_K.moved (u := U) (U := U.calling g mk a) (Vm.Alike.refl U.vm) qK, nw_same (u := U) (U := U.calling g mk a) rfl qN, qD⟩, va_recv hKc hPc (ci := 3) (q0 := 0) rfl rfl, fun U hU hW => ⟨rfl, by rw [hU], by rw [hU]; exact hPc, va_K.moved hW.alike hKc, nw_warm hW hN, hDc.weaken (fun _ _ _ _ => trivial)⟩⟩ rfl rfl hl.1 rfl (lv_room (Nat.le_of_ble_eq_true rfl)) dX3_kindsWith_57 ⟨Nat.le_of_ble_eq_true rfl, Nat.le_of_ble_eq_true rfl⟩) hS (fun q _ h => hFc q h) hFc (fun rz u t H1 locs ht hvm hw hB1 hz1 hk1 hS => ?_)
            obtain ⟨u112, f113⟩ := u
            obtain ⟨hP1, hK1, hD1⟩ := hB1
            rw [ht] at hP1
            have hK1 := va_K.moved hvm.symm hK1
            obtain ⟨r114, rfl⟩ : ∃ z, z = rz := ⟨_, rfl⟩
            subst hw
            dsimp only at h
            obtain ⟨hP, hD⟩ := va_join (wr := []) (w1 := [(h0, .inr (3, [.ref h0_roots, .ref h0_strides, .ref h0_halvesFound])), (h0_roots, .inr (1, [.ref h0_roots_least, .int u112])), (h0_roots_least, .inl (k_t_roots_least, 10007, .inl f113))]) hP hD [0, 1, 2] [] rfl rfl (by decide) (by decide) hk1 hFc hP1 hD1
            generalize H1 = H at hP hS ⊢
            have hP := hP.sub (ws' := [(h0, .inr (3, [.ref h0_roots, .ref h0_strides, .ref h0_halvesFound])), (h0_roots, .inr (1, [.ref h0_roots_least, .int u112])), (h0_roots_least, .inl (k_t_roots_least, 10007, .inl f113))]) [0, 1, 2] rfl
            have hD := hD.sub (ws' := [(h0, .inr (3, [.ref h0_roots, .ref h0_strides, .ref h0_halvesFound])), (h0_roots, .inr (1, [.ref h0_roots_least, .int u112])), (h0_roots_least, .inl (k_t_roots_least, 10007, .inl f113))]) [0, 1, 2] (by decide) rfl
            refine lv_istore (lv' := [(5, .int r114), (3, .int x98), (4, .int x99), (0, .ref h0), (1, .int a0), (2, .int a1)]) hx hb dX3_kindsWith_60 hl (by decide) rfl (fun ls hl => ?_)
            refine lv_iload_n hx hb dX3_kindsWith_62 rfl (lv_at hl 1 rfl) ?_
            refine lv_iload hx hb dX3_kindsWith_63 (lv_at hl 0 rfl) ?_
            refine lv_iload_n hx hb dX3_kindsWith_65 rfl (lv_at hl 5 rfl) ?_
            refine lv_icmp_eq (tgt := 81) hx hb dX3_kindsWith_66 (by decide) (fun c115 => ?_) (fun c115 => ?_)
            · replace h := (if_pos c115).symm.trans h
              refine lv_iconst (v := 1) hx hb dX3_kindsWith_81 (by decide) ?_
              refine lv_goto (tgt := 86) hx hb dX3_kindsWith_82 (by decide) ?_
              refine lv_iadd hx hb dX3_kindsWith_86 ?_
              refine lv_topi (fun v116 ev116 => ?_)
              replace h := mi_use ev116 h
              refine lv_istore_n (lv' := [(3, .int v116), (5, .int r114), (4, .int x99), (0, .ref h0), (1, .int a0), (2, .int a1)]) hx hb dX3_kindsWith_87 rfl hl (by decide) rfl (fun ls hl => ?_)
              obtain ⟨v117, ev117⟩ : ∃ z : Int32, z = x99 + 1 := ⟨_, rfl⟩
              refine lv_iinc (v := v117) (lv' := [(4, .int v117), (3, .int v116), (5, .int r114), (0, .ref h0), (1, .int a0), (2, .int a1)]) hx hb dX3_kindsWith_88 hl (k := 2) rfl (by rw [ev117]; rfl) (by decide) rfl (fun ls hl => ?_)
              replace h := mi_use ev117 h
              refine lv_goto (tgt := 35) hx hb dX3_kindsWith_91 (by decide) ?_
              exact ih _ _ _ _ _ (hA _ (Option.some.inj h).symm) hkE _ _ ls hP hD hS (lv_sub hl [1, 0, 3, 4, 5] rfl)
            · replace h := (if_neg c115).symm.trans h
              refine lv_iconst (v := 2) hx hb dX3_kindsWith_69 (by decide) ?_
              refine lv_iload_n hx hb dX3_kindsWith_70 rfl (lv_at hl 4 rfl) ?_
              refine lv_imul hx hb dX3_kindsWith_71 ?_
              refine lv_iconst (v := 2) hx hb dX3_kindsWith_72 (by decide) ?_
              refine lv_iadd hx hb dX3_kindsWith_73 ?_
              refine lv_iload hx hb dX3_kindsWith_74 (lv_at hl 0 rfl) ?_
              refine lv_isub hx hb dX3_kindsWith_76 ?_
              refine lv_iload_n hx hb dX3_kindsWith_77 rfl (lv_at hl 5 rfl) ?_
              refine lv_icmp_ne (tgt := 85) hx hb dX3_kindsWith_78 (by decide) (fun c118 => ?_) (fun c118 => ?_)
              · replace h := (if_neg c118).symm.trans h
                refine lv_iconst (v := 0) hx hb dX3_kindsWith_85 (by decide) ?_
                refine lv_iadd hx hb dX3_kindsWith_86 ?_
                refine lv_topi (fun v119 ev119 => ?_)
                replace h := mi_use ev119 h
                refine lv_istore_n (lv' := [(3, .int v119), (5, .int r114), (4, .int x99), (0, .ref h0), (1, .int a0), (2, .int a1)]) hx hb dX3_kindsWith_87 rfl hl (by decide) rfl (fun ls hl => ?_)
                obtain ⟨v120, ev120⟩ : ∃ z : Int32, z = x99 + 1 := ⟨_, rfl⟩
                refine lv_iinc (v := v120) (lv' := [(4, .int v120), (3, .int v119), (5, .int r114), (0, .ref h0), (1, .int a0), (2, .int a1)]) hx hb dX3_kindsWith_88 hl (k := 2) rfl (by rw [ev120]; rfl) (by decide) rfl (fun ls hl => ?_)
                replace h := mi_use ev120 h
                refine lv_goto (tgt := 35) hx hb dX3_kindsWith_91 (by decide) ?_
                exact ih _ _ _ _ _ (hA _ (Option.some.inj h).symm) hkE _ _ ls hP hD hS (lv_sub hl [1, 0, 3, 4, 5] rfl)
              · replace h := (if_pos c118).symm.trans h
                refine lv_iconst (v := 1) hx hb dX3_kindsWith_81 (by decide) ?_
                refine lv_goto (tgt := 86) hx hb dX3_kindsWith_82 (by decide) ?_
                refine lv_iadd hx hb dX3_kindsWith_86 ?_
                refine lv_topi (fun v121 ev121 => ?_)
                replace h := mi_use ev121 h
                refine lv_istore_n (lv' := [(3, .int v121), (5, .int r114), (4, .int x99), (0, .ref h0), (1, .int a0), (2, .int a1)]) hx hb dX3_kindsWith_87 rfl hl (by decide) rfl (fun ls hl => ?_)
                obtain ⟨v122, ev122⟩ : ∃ z : Int32, z = x99 + 1 := ⟨_, rfl⟩
                refine lv_iinc (v := v122) (lv' := [(4, .int v122), (3, .int v121), (5, .int r114), (0, .ref h0), (1, .int a0), (2, .int a1)]) hx hb dX3_kindsWith_88 hl (k := 2) rfl (by rw [ev122]; rfl) (by decide) rfl (fun ls hl => ?_)
                replace h := mi_use ev122 h
                refine lv_goto (tgt := 35) hx hb dX3_kindsWith_91 (by decide) ?_
                exact ih _ _ _ _ _ (hA _ (Option.some.inj h).symm) hkE _ _ ls hP hD hS (lv_sub hl [1, 0, 3, 4, 5] rfl)
      obtain ⟨o123, ho123, h⟩ := Option.bind_eq_some_iff.mp h
      refine L35 N _ _ _ _ o123 ho123 ?_ _ _ ls hP hD hS (lv_sub hl [1, 0, 2, 3, 4] rfl)
      intro y102 y103 y104 y105 eo H locs ls hP hD hS hl
      subst eo
      dsimp only at h
      refine lv_iload_n hx hb dX3_kindsWith_94 rfl (lv_at hl 0 rfl) ?_
      have hv : (y102, y104, y105) = rr := Option.some.inj h
      have hP9 := hP.sub (ws' := [(h0, .inr (3, [.ref h0_roots, .ref h0_strides, .ref h0_halvesFound])), (h0_roots, .inr (1, [.ref h0_roots_least, .int y104])), (h0_roots_least, .inl (k_t_roots_least, 10007, .inl y105))]) [0, 1, 2] rfl
      have hD9 := hD.sub (ws' := [(h0, .inr (3, [.ref h0_roots, .ref h0_strides, .ref h0_halvesFound])), (h0_roots, .inr (1, [.ref h0_roots_least, .int y104])), (h0_roots_least, .inl (k_t_roots_least, 10007, .inl y105))]) [0, 1, 2] (by decide) rfl
      have hK9 := hK.sub (tys' := [(k_t_roots_least, .int)]) [0] rfl
      exact W.iret (v := y102) hx hb hr (fun t ht hW => ⟨⟨y102, (y104, y105), rfl, hv, by rw [ht]; exact hP9, va_K.moved hW.alike hK9, hD9⟩, hS.F ht⟩) hS.2.2 dX3_kindsWith_95
end
section
def mX5_kinds (N : Nat) (t_roots_prime : Int32) (t_roots_least : Nat → Int32) (a0 : Int32) (a1 : Int32) : Option (Int32 × Int32 × (Nat → Int32)) := if 61 < a0 then some ((-2), t_roots_prime, t_roots_least) else (mX4_isFieldPrime N a0).bind (fun r2 => if r2 = 0 then some ((-2), t_roots_prime, t_roots_least) else (mX3_kindsWith N t_roots_prime t_roots_least a0 a1).bind (fun r4 => match r4 with | (r7, u5, f6) => some (r7, u5, f6)))
abbrev rmX5_kinds : Room := { frames := 6, cells := 0, slots := 0, locals := 140 }
set_option maxHeartbeats 4000000 in
set_option maxRecDepth 100000 in
theorem ctX5_kinds (l : Launch) (N : Nat) (dC : Nat → ClassId) (dI : Nat → Nat → Nat) (sz : Nat) (h0 : Nat) (h0_roots : Nat) (h0_survey : Nat) (h0_roots_least : Nat) (h0_held : Nat) (h0_survey_strides : Nat) (h0_survey_halvesFound : Nat) (k_t_roots_least : ClassId) (t_size : Int32) (t_roots_prime : Int32) (t_roots_least : Nat → Int32) (a0 : Int32) (a1 : Int32) (rr : Int32 × Int32 × (Nat → Int32)) (h : mX5_kinds N t_roots_prime t_roots_least a0 a1 = some rr) : Met l yX5_kinds wsX5_kinds rmX5_kinds (va_Pc [.ref h0, .int a0, .int a1] (fun U => U.heap.size = sz ∧ va_P (dC, dI) vwCl [(h0, .inr (4, [.ref h0_held, .int t_size, .ref h0_roots, .ref h0_survey])), (h0_roots, .inr (1, [.ref h0_roots_least, .int t_roots_prime])), (h0_survey, .inr (3, [.ref h0_roots, .ref h0_survey_strides, .ref h0_survey_halvesFound])), (h0_roots_least, .inl (k_t_roots_least, 10007, .inl t_roots_least))] U.heap ∧ va_K (dC, dI) vwCl [(k_t_roots_least, .int)] U ∧ nw_all U ∧ va_D (fun _ => True) [(h0, .inr (4, [.ref h0_held, .int t_size, .ref h0_roots, .ref h0_survey])), (h0_roots, .inr (1, [.ref h0_roots_least, .int t_roots_prime])), (h0_survey, .inr (3, [.ref h0_roots, .ref h0_survey_strides, .ref h0_survey_halvesFound])), (h0_roots_least, .inl (k_t_roots_least, 10007, .inl t_roots_least))])) (va_Qi (fun (r : Int32) (u : Int32 × (Nat → Int32)) => (r, u) = rr) (fun (u : Int32 × (Nat → Int32)) t => match u with | (u0, u1) => va_P (dC, dI) vwCl [(h0, .inr (4, [.ref h0_held, .int t_size, .ref h0_roots, .ref h0_survey])), (h0_roots, .inr (1, [.ref h0_roots_least, .int u0])), (h0_survey, .inr (3, [.ref h0_roots, .ref h0_survey_strides, .ref h0_survey_halvesFound])), (h0_roots_least, .inl (k_t_roots_least, 10007, .inl u1))] t.heap ∧ va_K (dC, dI) vwCl [(k_t_roots_least, .int)] t ∧ va_D (va_A [(h0, .inr (4, [.ref h0_held, .int t_size, .ref h0_roots, .ref h0_survey])), (h0_roots, .inr (1, [.ref h0_roots_least, .int t_roots_prime])), (h0_survey, .inr (3, [.ref h0_roots, .ref h0_survey_strides, .ref h0_survey_halvesFound])), (h0_roots_least, .inl (k_t_roots_least, 10007, .inl t_roots_least))] sz) [(h0, .inr (4, [.ref h0_held, .int t_size, .ref h0_roots, .ref h0_survey])), (h0_roots, .inr (1, [.ref h0_roots_least, .int u0])), (h0_survey, .inr (3, [.ref h0_roots, .ref h0_survey_strides, .ref h0_survey_halvesFound])), (h0_roots_least, .inl (k_t_roots_least, 10007, .inl u1))]) (va_A [(h0, .inr (4, [.ref h0_held, .int t_size, .ref h0_roots, .ref h0_survey])), (h0_roots, .inr (1, [.ref h0_roots_least, .int t_roots_prime])), (h0_survey, .inr (3, [.ref h0_roots, .ref h0_survey_strides, .ref h0_survey_halvesFound])), (h0_roots_least, .inl (k_t_roots_least, 10007, .inl t_roots_least))] sz)) 0 0 (va_A [(h0, .inr (4, [.ref h0_held, .int t_size, .ref h0_roots, .ref h0_survey])), (h0_roots, .inr (1, [.ref h0_roots_least, .int t_roots_prime])), (h0_survey, .inr (3, [.ref h0_roots, .ref h0_survey_strides, .ref h0_survey_halvesFound])), (h0_roots_least, .inl (k_t_roots_least, 10007, .inl t_roots_least))] sz) := by
  refine Met.ofW (cc := cX5_kinds) (maxL := 3) (ret := (some .int)) (by decide) rfl ?_
  intro p e s m args below meth c s₁ B hml hv
  obtain ⟨rfl, hsz, hP, hK, hN, hD0⟩ := hv
  have hx := B.exec
  have hb := B.bytes
  have hr := B.returns
  have hts := atoms_spec (ws := wsX5_kinds) B.pre
  have hown : s.vm.findClass RX5 = some m.cls := findClass_of_methodNamed B.named
  have hlocks := B.notSynchronized
  subst hsz
  have hD := hD0.self (sz := s.heap.size)
  generalize hAe : va_A [(h0, .inr (4, [.ref h0_held, .int t_size, .ref h0_roots, .ref h0_survey])), (h0_roots, .inr (1, [.ref h0_roots_least, .int t_roots_prime])), (h0_survey, .inr (3, [.ref h0_roots, .ref h0_survey_strides, .ref h0_survey_halvesFound])), (h0_roots_least, .inl (k_t_roots_least, 10007, .inl t_roots_least))] s.heap.size = A at hD ⊢
  have hA0 : ∀ q : Nat, s.heap.size ≤ q → A q := fun q h => by rw [← hAe]; exact Or.inr h
  have hS : va_S A s.heap s.heap [] := va_S.rf
  have hP : va_P (dC, dI) vwCl [(h0, .inr (4, [.ref h0_held, .int t_size, .ref h0_roots, .ref h0_survey])), (h0_roots, .inr (1, [.ref h0_roots_least, .int t_roots_prime])), (h0_survey, .inr (3, [.ref h0_roots, .ref h0_survey_strides, .ref h0_survey_halvesFound])), (h0_roots_least, .inl (k_t_roots_least, 10007, .inl t_roots_least))] s.heap := hP
  have hl := lv_entry ([.ref h0, .int a0, .int a1]) (n := 3) (Nat.le_of_ble_eq_true rfl)
  rw [lg_entry_eq]
  generalize (lg_sl ([.ref h0, .int a0, .int a1]) ++ List.replicate (3 - (lg_sl ([.ref h0, .int a0, .int a1])).length) Slot.unset).toArray = ls at hl ⊢
  have hl : lv_has ls 3 [(0, .ref h0), (1, .int a0), (2, .int a1)] := hl
  dsimp only [mX5_kinds] at h
  refine lv_iload_n hx hb dX5_kinds_0 rfl (lv_at hl 1 rfl) ?_
  refine lv_bipush (v := 61) hx hb dX5_kinds_1 (by decide) ?_
  refine lv_icmp_gt (tgt := 13) hx hb dX5_kinds_3 (by decide) (fun c1 => ?_) (fun c1 => ?_)
  · replace h := (if_pos c1).symm.trans h
    refine lv_bipush (v := (-2)) hx hb dX5_kinds_13 (by decide) ?_
    refine lv_goto (tgt := 27) hx hb dX5_kinds_15 (by decide) ?_
    have hv : ((-2), t_roots_prime, t_roots_least) = rr := Option.some.inj h
    have hP9 := hP.sub (ws' := [(h0, .inr (4, [.ref h0_held, .int t_size, .ref h0_roots, .ref h0_survey])), (h0_roots, .inr (1, [.ref h0_roots_least, .int t_roots_prime])), (h0_survey, .inr (3, [.ref h0_roots, .ref h0_survey_strides, .ref h0_survey_halvesFound])), (h0_roots_least, .inl (k_t_roots_least, 10007, .inl t_roots_least))]) [0, 1, 2, 3] rfl
    have hD9 := hD.sub (ws' := [(h0, .inr (4, [.ref h0_held, .int t_size, .ref h0_roots, .ref h0_survey])), (h0_roots, .inr (1, [.ref h0_roots_least, .int t_roots_prime])), (h0_survey, .inr (3, [.ref h0_roots, .ref h0_survey_strides, .ref h0_survey_halvesFound])), (h0_roots_least, .inl (k_t_roots_least, 10007, .inl t_roots_least))]) [0, 1, 2, 3] (by decide) rfl
    have hK9 := hK.sub (tys' := [(k_t_roots_least, .int)]) [0] rfl
    exact W.iret (v := (-2)) hx hb hr (fun t ht hW => ⟨⟨(-2), (t_roots_prime, t_roots_least), rfl, hv, by rw [ht]; exact hP9, va_K.moved hW.alike hK9, hD9⟩, hS.F ht⟩) hS.2.2 dX5_kinds_27
  · replace h := (if_neg c1).symm.trans h
    refine lv_iload_n hx hb dX5_kinds_6 rfl (lv_at hl 1 rfl) ?_
    obtain ⟨r2, hr2, h⟩ := Option.bind_eq_some_iff.mp h
    refine vp_callSi (W.runS (As := [.int a0]) (rest := []) ⟨hx, hb, hml, hown, hts⟩ (ctX4_isFieldPrime l N  a0 r2 hr2) (va_cwS 1 hts gX5_kinds_X4_isFieldPrime rfl rfl rfl (by decide +kernel) ⟨Nat.le_of_ble_eq_true rfl, Nat.le_of_ble_eq_true rfl⟩) preEq rfl rfl hl.1 rfl (lv_room (Nat.le_of_ble_eq_true rfl)) dX5_kinds_7 ⟨Nat.le_of_ble_eq_true rfl, Nat.le_of_ble_eq_true rfl⟩) (fun q9 eq9 => ?_)
    subst eq9
    refine lv_if_ne (tgt := 18) hx hb dX5_kinds_10 (by decide) (fun c3 => ?_) (fun c3 => ?_)
    · replace h := (if_neg c3).symm.trans h
      refine lv_aload_n hx hb dX5_kinds_18 rfl (lv_at hl 0 rfl) ?_
      refine va_get (D := (dC, dI)) (ci := 4) (v := .ref h0_survey) (C := RX5) (T := TX5) (N := 4) hx hb hts (by decide +kernel) hown hK hP 0 rfl rfl 3 (by decide) (hts (.fieldLink RX5 31 "PointRings" "survey" "LPointRings$Survey;") (by decide +kernel)) (fun _ h9 => h9) rfl dX5_kinds_19 ?_
      refine lv_iload_n hx hb dX5_kinds_22 rfl (lv_at hl 1 rfl) ?_
      refine lv_iload_n hx hb dX5_kinds_23 rfl (lv_at hl 2 rfl) ?_
      obtain ⟨r4, hr4, h⟩ := Option.bind_eq_some_iff.mp h
      have hPc := hP.sub (ws' := [(h0_survey, .inr (3, [.ref h0_roots, .ref h0_survey_strides, .ref h0_survey_halvesFound])), (h0_roots, .inr (1, [.ref h0_roots_least, .int t_roots_prime])), (h0_roots_least, .inl (k_t_roots_least, 10007, .inl t_roots_least))]) [2, 1, 3] rfl
      have hDc := hD.sub (ws' := [(h0_survey, .inr (3, [.ref h0_roots, .ref h0_survey_strides, .ref h0_survey_halvesFound])), (h0_roots, .inr (1, [.ref h0_roots_least, .int t_roots_prime])), (h0_roots_least, .inl (k_t_roots_least, 10007, .inl t_roots_least))]) [2, 1, 3] (by decide) rfl
      have hKc := hK.sub (tys' := [(k_t_roots_least, .int)]) [0] rfl
      have hFc := va_free (wc := [(h0_survey, .inr (3, [.ref h0_roots, .ref h0_survey_strides, .ref h0_survey_halvesFound])), (h0_roots, .inr (1, [.ref h0_roots_least, .int t_roots_prime])), (h0_roots_least, .inl (k_t_roots_least, 10007, .inl t_roots_least))]) hD hS hA0 [2, 1, 3] rfl
      refine va_calli (va_runV (As := [.int a0, .int a1]) (rest := []) ⟨hx, hb, hml, hown, hts⟩ (ctX3_kindsWith l N dC dI _ h0_survey h0_roots h0_roots_least h0_survey_strides h0_survey_halvesFound k_t_roots_least t_roots_prime t_roots_least a0 a1 r4 hr4) (cwV 2 hts gX5_kinds_X3_kindsWith rfl rfl rfl (by decide +kernel) ⟨Nat.le_of_ble_eq_true rfl, Nat.le_of_ble_eq_true rfl⟩) ⟨fun a U g mk q => by obtain ⟨q0, q1, qP, qK, qN, qD⟩ := q; exact ⟨q0, q1, qP, va_K.moved (u := U) (U := U.calling g mk a) (Vm.Alike.refl U.vm) qK, nw_same (u := U) (U := U.calling g mk a) rfl qN, qD⟩, va_recv hKc hPc (ci := 3) (q0 := 0) rfl rfl, fun U hU hW => ⟨rfl, by rw [hU], by rw [hU]; exact hPc, va_K.moved hW.alike hKc, nw_warm hW hN, hDc.weaken (fun _ _ _ _ => trivial)⟩⟩ rfl rfl hl.1 rfl (lv_room (Nat.le_of_ble_eq_true rfl)) dX5_kinds_24 ⟨Nat.le_of_ble_eq_true rfl, Nat.le_of_ble_eq_true rfl⟩) hS (fun q _ h => hFc q h) hFc (fun rz u t H1 locs ht hvm hw hB1 hz1 hk1 hS => ?_)
      obtain ⟨u5, f6⟩ := u
      obtain ⟨hP1, hK1, hD1⟩ := hB1
      rw [ht] at hP1
      have hK1 := va_K.moved hvm.symm hK1
      obtain ⟨r7, rfl⟩ : ∃ z, z = rz := ⟨_, rfl⟩
      subst hw
      dsimp only at h
      obtain ⟨hP, hD⟩ := va_join (wr := [(h0, .inr (4, [.ref h0_held, .int t_size, .ref h0_roots, .ref h0_survey]))]) (w1 := [(h0_survey, .inr (3, [.ref h0_roots, .ref h0_survey_strides, .ref h0_survey_halvesFound])), (h0_roots, .inr (1, [.ref h0_roots_least, .int u5])), (h0_roots_least, .inl (k_t_roots_least, 10007, .inl f6))]) hP hD [2, 1, 3] [0] rfl rfl (by decide) (by decide) hk1 hFc hP1 hD1
      generalize H1 = H at hP hS ⊢
      have hP := hP.sub (ws' := [(h0, .inr (4, [.ref h0_held, .int t_size, .ref h0_roots, .ref h0_survey])), (h0_roots, .inr (1, [.ref h0_roots_least, .int u5])), (h0_survey, .inr (3, [.ref h0_roots, .ref h0_survey_strides, .ref h0_survey_halvesFound])), (h0_roots_least, .inl (k_t_roots_least, 10007, .inl f6))]) [0, 2, 1, 3] rfl
      have hD := hD.sub (ws' := [(h0, .inr (4, [.ref h0_held, .int t_size, .ref h0_roots, .ref h0_survey])), (h0_roots, .inr (1, [.ref h0_roots_least, .int u5])), (h0_survey, .inr (3, [.ref h0_roots, .ref h0_survey_strides, .ref h0_survey_halvesFound])), (h0_roots_least, .inl (k_t_roots_least, 10007, .inl f6))]) [0, 2, 1, 3] (by decide) rfl
      have hv : (r7, u5, f6) = rr := Option.some.inj h
      have hP9 := hP.sub (ws' := [(h0, .inr (4, [.ref h0_held, .int t_size, .ref h0_roots, .ref h0_survey])), (h0_roots, .inr (1, [.ref h0_roots_least, .int u5])), (h0_survey, .inr (3, [.ref h0_roots, .ref h0_survey_strides, .ref h0_survey_halvesFound])), (h0_roots_least, .inl (k_t_roots_least, 10007, .inl f6))]) [0, 1, 2, 3] rfl
      have hD9 := hD.sub (ws' := [(h0, .inr (4, [.ref h0_held, .int t_size, .ref h0_roots, .ref h0_survey])), (h0_roots, .inr (1, [.ref h0_roots_least, .int u5])), (h0_survey, .inr (3, [.ref h0_roots, .ref h0_survey_strides, .ref h0_survey_halvesFound])), (h0_roots_least, .inl (k_t_roots_least, 10007, .inl f6))]) [0, 1, 2, 3] (by decide) rfl
      have hK9 := hK.sub (tys' := [(k_t_roots_least, .int)]) [0] rfl
      exact W.iret (v := r7) hx hb hr (fun t ht hW => ⟨⟨r7, (u5, f6), rfl, hv, by rw [ht]; exact hP9, va_K.moved hW.alike hK9, hD9⟩, hS.F ht⟩) hS.2.2 dX5_kinds_27
    · replace h := (if_pos c3).symm.trans h
      refine lv_bipush (v := (-2)) hx hb dX5_kinds_13 (by decide) ?_
      refine lv_goto (tgt := 27) hx hb dX5_kinds_15 (by decide) ?_
      have hv : ((-2), t_roots_prime, t_roots_least) = rr := Option.some.inj h
      have hP9 := hP.sub (ws' := [(h0, .inr (4, [.ref h0_held, .int t_size, .ref h0_roots, .ref h0_survey])), (h0_roots, .inr (1, [.ref h0_roots_least, .int t_roots_prime])), (h0_survey, .inr (3, [.ref h0_roots, .ref h0_survey_strides, .ref h0_survey_halvesFound])), (h0_roots_least, .inl (k_t_roots_least, 10007, .inl t_roots_least))]) [0, 1, 2, 3] rfl
      have hD9 := hD.sub (ws' := [(h0, .inr (4, [.ref h0_held, .int t_size, .ref h0_roots, .ref h0_survey])), (h0_roots, .inr (1, [.ref h0_roots_least, .int t_roots_prime])), (h0_survey, .inr (3, [.ref h0_roots, .ref h0_survey_strides, .ref h0_survey_halvesFound])), (h0_roots_least, .inl (k_t_roots_least, 10007, .inl t_roots_least))]) [0, 1, 2, 3] (by decide) rfl
      have hK9 := hK.sub (tys' := [(k_t_roots_least, .int)]) [0] rfl
      exact W.iret (v := (-2)) hx hb hr (fun t ht hW => ⟨⟨(-2), (t_roots_prime, t_roots_least), rfl, hv, by rw [ht]; exact hP9, va_K.moved hW.alike hK9, hD9⟩, hS.F ht⟩) hS.2.2 dX5_kinds_27
end
section
def mX5_curves (N : Nat) (t_size : Int32) : Option (Int32) := some t_size
abbrev rmX5_curves : Room := { frames := 0, cells := 0, slots := 0, locals := 0 }
set_option maxHeartbeats 4000000 in
set_option maxRecDepth 100000 in
theorem ctX5_curves (l : Launch) (N : Nat) (dC : Nat → ClassId) (dI : Nat → Nat → Nat) (h0 : Nat) (h0_held : Nat) (h0_roots : Nat) (h0_survey : Nat) (t_size : Int32) (rr : Int32) (h : mX5_curves N t_size = some rr) : Met l yX5_curves wsX5_curves rmX5_curves (va_Pc [.ref h0] (fun U => va_P (dC, dI) vwCl [(h0, .inr (4, [.ref h0_held, .int t_size, .ref h0_roots, .ref h0_survey]))] U.heap ∧ va_K (dC, dI) vwCl [] U ∧ nw_all U)) (vp_Si (fun r => r = rr)) 0 0 (fun _ => False) := by
  refine Met.ofW (cc := cX5_curves) (maxL := 1) (ret := (some .int)) (by decide) rfl ?_
  intro p e s m args below meth c s₁ B hml hv
  obtain ⟨rfl, hP, hK, hN⟩ := hv
  have hx := B.exec
  have hb := B.bytes
  have hr := B.returns
  have hts := atoms_spec (ws := wsX5_curves) B.pre
  have hown : s.vm.findClass RX5 = some m.cls := findClass_of_methodNamed B.named
  have hlocks := B.notSynchronized
  have hl := lv_entry ([.ref h0]) (n := 1) (Nat.le_of_ble_eq_true rfl)
  rw [lg_entry_eq]
  generalize (lg_sl ([.ref h0]) ++ List.replicate (1 - (lg_sl ([.ref h0])).length) Slot.unset).toArray = ls at hl ⊢
  have hl : lv_has ls 1 [(0, .ref h0)] := hl
  dsimp only [mX5_curves] at h
  refine lv_aload_n hx hb dX5_curves_0 rfl (lv_at hl 0 rfl) ?_
  refine va_get (D := (dC, dI)) (ci := 4) (v := .int t_size) (C := RX5) (T := TX5) (N := 4) hx hb hts (by decide +kernel) hown hK hP 0 rfl rfl 1 (by decide) (hts (.fieldLink RX5 15 "PointRings" "size" "I") (by decide +kernel)) (fun _ h9 => h9) rfl dX5_curves_1 ?_
  have hv : t_size = rr := Option.some.inj h
  exact W.iret (v := t_size) hx hb hr (fun t ht hW => ⟨_, rfl, hv, ht⟩) (fun q hq => absurd hq List.not_mem_nil) dX5_curves_4
end
section
def mX5_drop_e (N : Nat)  : Option (Int32) := some (-1)
abbrev rmX5_drop_e : Room := { frames := 0, cells := 0, slots := 0, locals := 0 }
set_option maxHeartbeats 4000000 in
set_option maxRecDepth 100000 in
theorem ctX5_drop_e (l : Launch) (N : Nat) (dC : Nat → ClassId) (dI : Nat → Nat → Nat) (h0 : Nat) (h0_held : Nat) (h0_roots : Nat) (h0_survey : Nat) (t_size : Int32) (rr : Int32) (h : mX5_drop_e N  = some rr) (hk0 : ¬ 1 ≤ t_size) : Met l yX5_drop wsX5_drop rmX5_drop_e (va_Pc [.ref h0] (fun U => va_P (dC, dI) vwCl [(h0, .inr (4, [.ref h0_held, .int t_size, .ref h0_roots, .ref h0_survey]))] U.heap ∧ va_K (dC, dI) vwCl [] U ∧ nw_all U)) (vp_Si (fun r => r = rr)) 0 0 (fun _ => False) := by
  refine Met.ofW (cc := cX5_drop) (maxL := 1) (ret := (some .int)) (by decide) rfl ?_
  intro p e s m args below meth c s₁ B hml hv
  obtain ⟨rfl, hP, hK, hN⟩ := hv
  have hx := B.exec
  have hb := B.bytes
  have hr := B.returns
  have hts := atoms_spec (ws := wsX5_drop) B.pre
  have hown : s.vm.findClass RX5 = some m.cls := findClass_of_methodNamed B.named
  have hlocks := B.notSynchronized
  have hl := lv_entry ([.ref h0]) (n := 1) (Nat.le_of_ble_eq_true rfl)
  rw [lg_entry_eq]
  generalize (lg_sl ([.ref h0]) ++ List.replicate (1 - (lg_sl ([.ref h0])).length) Slot.unset).toArray = ls at hl ⊢
  have hl : lv_has ls 1 [(0, .ref h0)] := hl
  dsimp only [mX5_drop_e] at h
  refine lv_aload_n hx hb dX5_drop_0 rfl (lv_at hl 0 rfl) ?_
  refine va_get (D := (dC, dI)) (ci := 4) (v := .int t_size) (C := RX5) (T := TX5) (N := 4) hx hb hts (by decide +kernel) hown hK hP 0 rfl rfl 1 (by decide) (hts (.fieldLink RX5 15 "PointRings" "size" "I") (by decide +kernel)) (fun _ h9 => h9) rfl dX5_drop_1 ?_
  refine lv_iconst (v := 1) hx hb dX5_drop_4 (by decide) ?_
  refine lv_icmp_ge (tgt := 10) hx hb dX5_drop_5 (by decide) (fun c1 => ?_) (fun c1 => ?_)
  · exact absurd c1 hk0
  · refine lv_iconst (v := (-1)) hx hb dX5_drop_8 (by decide) ?_
    have hv : (-1) = rr := Option.some.inj h
    exact W.iret (v := (-1)) hx hb hr (fun t ht hW => ⟨_, rfl, hv, ht⟩) (fun q hq => absurd hq List.not_mem_nil) dX5_drop_9
end
