theorem goodIn_r {big : List Cond} (ws : List Cond) (ps : List Nat) (hp : ws = ps.filterMap (fun i => big[i]?)) (h : ws.all goodWord = true) : GoodIn big ws := by
  intro w hw
  have h1 := List.all_eq_true.mp h w hw
  rw [hp] at hw
  obtain ⟨i, -, hi⟩ := List.mem_filterMap.mp hw
  have hm : w ∈ big := by first | exact List.mem_of_getElem? hi | exact List.getElem?_mem hi
  exact ⟨hm, good_of_word h1⟩
theorem goodIn_app {big a b : List Cond} (ha : GoodIn big a) (hb : GoodIn big b) : GoodIn big (a ++ b) := fun w h => (List.mem_append.mp h).elim (ha w) (hb w)
theorem goodIn_sub {big ws : List Cond} (hm : ∀ w ∈ ws, w ∈ big) (h : ws.all goodWord = true) : GoodIn big ws := fun w hw => ⟨hm w hw, good_of_word (List.all_eq_true.mp h w hw)⟩
def RX0 : String := "PointRings$Curve"
def TX0 : u_T := fun k => match k with
  | 0 => ("PointRings$Curve", "p", "I", true)
  | 1 => ("PointRings$Curve", "a", "I", true)
  | 2 => ("PointRings$Curve", "b", "I", true)
  | 3 => ("PointRings$Curve", "from", "I", false)
  | 4 => ("PointRings$Curve", "kernelPoint", "I", false)
  | 5 => ("PointRings$Curve", "kernelOrder", "I", false)
  | 6 => ("PointRings$Curve", "points", "I", false)
  | 7 => ("PointRings$Curve", "inner", "I", false)
  | 8 => ("PointRings$Curve", "outer", "I", false)
  | 9 => ("PointRings$Curve", "makersFound", "Z", false)
  | 10 => ("PointRings$Curve", "first", "I", false)
  | _ => ("PointRings$Curve", "second", "I", false)
def tyX0 : Nat → FieldType := fun k => match k with
  | 0 => .int
  | 1 => .int
  | 2 => .int
  | 3 => .int
  | 4 => .int
  | 5 => .int
  | 6 => .int
  | 7 => .int
  | 8 => .int
  | 9 => .boolean
  | 10 => .int
  | _ => .int
abbrev wsX00 : List Cond := u_ws RX0 TX0 12
theorem nmX0 : ∀ a, a < 12 → ∀ b, b < 12 → a ≠ b → (TX0 a).2.1 ≠ (TX0 b).2.1 := by decide +kernel
theorem tyX0_ok : ∀ k, k < 12 → parseFieldDescriptor (TX0 k).2.2.1 = some (tyX0 k) := by decide +kernel
abbrev cX0_init : ByteArray := prog_2_method_1_code
def yX0_init : MethodName := ⟨RX0, "<init>", "(III)V"⟩
def RX1 : String := "PointRings$Roots"
def TX1 : u_T := fun k => match k with
  | 0 => ("PointRings$Roots", "least", "[I", true)
  | _ => ("PointRings$Roots", "prime", "I", false)
def tyX1 : Nat → FieldType := fun k => match k with
  | 0 => .array .int
  | _ => .int
abbrev wsX10 : List Cond := u_ws RX1 TX1 2
theorem nmX1 : ∀ a, a < 2 → ∀ b, b < 2 → a ≠ b → (TX1 a).2.1 ≠ (TX1 b).2.1 := by decide +kernel
theorem tyX1_ok : ∀ k, k < 2 → parseFieldDescriptor (TX1 k).2.2.1 = some (tyX1 k) := by decide +kernel
abbrev cX1_init : ByteArray := prog_3_method_1_code
def yX1_init : MethodName := ⟨RX1, "<init>", "()V"⟩
abbrev cX1_leastRoot : ByteArray := prog_3_method_2_code
def yX1_leastRoot : MethodName := ⟨RX1, "leastRoot", "(II)I"⟩
abbrev cX1_lay : ByteArray := prog_3_method_3_code
def yX1_lay : MethodName := ⟨RX1, "lay", "(I)V"⟩
def RX2 : String := "PointRings$Strides"
def TX2 : u_T := fun k => match k with
  | 0 => ("PointRings$Strides", "stepAt", "[I", true)
  | 1 => ("PointRings$Strides", "ends", "[I", true)
  | 2 => ("PointRings$Strides", "laidOn", "LPointRings$Curve;", false)
  | 3 => ("PointRings$Strides", "order", "I", false)
  | 4 => ("PointRings$Strides", "reach", "I", false)
  | _ => ("PointRings$Strides", "back", "I", false)
def tyX2 : Nat → FieldType := fun k => match k with
  | 0 => .array .int
  | 1 => .array .int
  | 2 => .object "PointRings$Curve"
  | 3 => .int
  | 4 => .int
  | _ => .int
abbrev wsX20 : List Cond := u_ws RX2 TX2 6
theorem nmX2 : ∀ a, a < 6 → ∀ b, b < 6 → a ≠ b → (TX2 a).2.1 ≠ (TX2 b).2.1 := by decide +kernel
theorem tyX2_ok : ∀ k, k < 6 → parseFieldDescriptor (TX2 k).2.2.1 = some (tyX2 k) := by decide +kernel
abbrev cX2_init : ByteArray := prog_4_method_1_code
def yX2_init : MethodName := ⟨RX2, "<init>", "()V"⟩
def RX3 : String := "PointRings$Survey"
def TX3 : u_T := fun k => match k with
  | 0 => ("PointRings$Survey", "roots", "LPointRings$Roots;", true)
  | 1 => ("PointRings$Survey", "strides", "LPointRings$Strides;", true)
  | _ => ("PointRings$Survey", "halvesFound", "[I", true)
def tyX3 : Nat → FieldType := fun k => match k with
  | 0 => .object "PointRings$Roots"
  | 1 => .object "PointRings$Strides"
  | _ => .array .int
abbrev wsX30 : List Cond := u_ws RX3 TX3 3
theorem nmX3 : ∀ a, a < 3 → ∀ b, b < 3 → a ≠ b → (TX3 a).2.1 ≠ (TX3 b).2.1 := by decide +kernel
theorem tyX3_ok : ∀ k, k < 3 → parseFieldDescriptor (TX3 k).2.2.1 = some (tyX3 k) := by decide +kernel
abbrev cX3_init : ByteArray := prog_5_method_1_code
def yX3_init : MethodName := ⟨RX3, "<init>", "()V"⟩
abbrev cX3_manyPoints : ByteArray := prog_5_method_5_code
def yX3_manyPoints : MethodName := ⟨RX3, "manyPoints", "(III)I"⟩
abbrev cX3_manyAt : ByteArray := prog_5_method_6_code
def yX3_manyAt : MethodName := ⟨RX3, "manyAt", "(II)I"⟩
abbrev cX3_pairsWith : ByteArray := prog_5_method_20_code
def yX3_pairsWith : MethodName := ⟨RX3, "pairsWith", "(II)I"⟩
abbrev cX3_kindsWith : ByteArray := prog_5_method_21_code
def yX3_kindsWith : MethodName := ⟨RX3, "kindsWith", "(II)I"⟩
abbrev cX3_manyWithoutA : ByteArray := prog_5_method_22_code
def yX3_manyWithoutA : MethodName := ⟨RX3, "manyWithoutA", "(II)I"⟩
abbrev cX3_manyWithoutB : ByteArray := prog_5_method_23_code
def yX3_manyWithoutB : MethodName := ⟨RX3, "manyWithoutB", "(II)I"⟩
def RX4 : String := "PointRings$Whole"
abbrev cX4_isBelow : ByteArray := prog_6_method_2_code
def yX4_isBelow : MethodName := ⟨RX4, "isBelow", "(II)Z"⟩
abbrev cX4_isFieldPrime : ByteArray := prog_6_method_3_code
def yX4_isFieldPrime : MethodName := ⟨RX4, "isFieldPrime", "(I)Z"⟩
abbrev cX4_isPrime : ByteArray := prog_6_method_4_code
def yX4_isPrime : MethodName := ⟨RX4, "isPrime", "(I)Z"⟩
abbrev cX4_leastFactor : ByteArray := prog_6_method_5_code
def yX4_leastFactor : MethodName := ⟨RX4, "leastFactor", "(I)I"⟩
abbrev cX4_cubicMark : ByteArray := prog_6_method_11_code
def yX4_cubicMark : MethodName := ⟨RX4, "cubicMark", "(III)I"⟩
def RX5 : String := "PointRings"
def TX5 : u_T := fun k => match k with
  | 0 => ("PointRings", "held", "[LPointRings$Curve;", true)
  | 1 => ("PointRings", "size", "I", false)
  | _ => ("PointRings", "survey", "LPointRings$Survey;", true)
def tyX5 : Nat → FieldType := fun k => match k with
  | 0 => .array (.object "PointRings$Curve")
  | 1 => .int
  | _ => .object "PointRings$Survey"
abbrev wsX50 : List Cond := u_ws RX5 TX5 3
theorem nmX5 : ∀ a, a < 3 → ∀ b, b < 3 → a ≠ b → (TX5 a).2.1 ≠ (TX5 b).2.1 := by decide +kernel
theorem tyX5_ok : ∀ k, k < 3 → parseFieldDescriptor (TX5 k).2.2.1 = some (tyX5 k) := by decide +kernel
abbrev cX5_init : ByteArray := prog_1_method_1_code
def yX5_init : MethodName := ⟨RX5, "<init>", "()V"⟩
abbrev cX5_curve : ByteArray := prog_1_method_2_code
def yX5_curve : MethodName := ⟨RX5, "curve", "(III)I"⟩
abbrev cX5_told : ByteArray := prog_1_method_3_code
def yX5_told : MethodName := ⟨RX5, "told", "(II)I"⟩
abbrev cX5_twist : ByteArray := prog_1_method_4_code
def yX5_twist : MethodName := ⟨RX5, "twist", "(I)I"⟩
abbrev cX5_map : ByteArray := prog_1_method_5_code
def yX5_map : MethodName := ⟨RX5, "map", "(II)I"⟩
abbrev cX5_mapped : ByteArray := prog_1_method_6_code
def yX5_mapped : MethodName := ⟨RX5, "mapped", "(III)I"⟩
abbrev cX5_root : ByteArray := prog_1_method_7_code
def yX5_root : MethodName := ⟨RX5, "root", "(II)I"⟩
abbrev cX5_inverse : ByteArray := prog_1_method_8_code
def yX5_inverse : MethodName := ⟨RX5, "inverse", "(II)I"⟩
abbrev cX5_power : ByteArray := prog_1_method_9_code
def yX5_power : MethodName := ⟨RX5, "power", "(IIJ)I"⟩
abbrev cX5_generator : ByteArray := prog_1_method_10_code
def yX5_generator : MethodName := ⟨RX5, "generator", "(I)I"⟩
abbrev cX5_point : ByteArray := prog_1_method_11_code
def yX5_point : MethodName := ⟨RX5, "point", "(III)I"⟩
abbrev cX5_lift : ByteArray := prog_1_method_12_code
def yX5_lift : MethodName := ⟨RX5, "lift", "(IIZ)I"⟩
abbrev cX5_near : ByteArray := prog_1_method_13_code
def yX5_near : MethodName := ⟨RX5, "near", "(II)I"⟩
abbrev cX5_nth : ByteArray := prog_1_method_14_code
def yX5_nth : MethodName := ⟨RX5, "nth", "(II)I"⟩
abbrev cX5_rank : ByteArray := prog_1_method_15_code
def yX5_rank : MethodName := ⟨RX5, "rank", "(II)I"⟩
abbrev cX5_add : ByteArray := prog_1_method_16_code
def yX5_add : MethodName := ⟨RX5, "add", "(III)I"⟩
abbrev cX5_negative : ByteArray := prog_1_method_17_code
def yX5_negative : MethodName := ⟨RX5, "negative", "(II)I"⟩
abbrev cX5_times : ByteArray := prog_1_method_18_code
def yX5_times : MethodName := ⟨RX5, "times", "(IIJ)I"⟩
abbrev cX5_alone : ByteArray := prog_1_method_19_code
def yX5_alone : MethodName := ⟨RX5, "alone", "(IIJ)I"⟩
abbrev cX5_count : ByteArray := prog_1_method_20_code
def yX5_count : MethodName := ⟨RX5, "count", "(I)I"⟩
abbrev cX5_countOver : ByteArray := prog_1_method_21_code
def yX5_countOver : MethodName := ⟨RX5, "countOver", "(II)J"⟩
abbrev cX5_bound : ByteArray := prog_1_method_22_code
def yX5_bound : MethodName := ⟨RX5, "bound", "(II)I"⟩
abbrev cX5_proof : ByteArray := prog_1_method_23_code
def yX5_proof : MethodName := ⟨RX5, "proof", "(II)I"⟩
abbrev cX5_supersingular : ByteArray := prog_1_method_24_code
def yX5_supersingular : MethodName := ⟨RX5, "supersingular", "(I)I"⟩
abbrev cX5_order : ByteArray := prog_1_method_25_code
def yX5_order : MethodName := ⟨RX5, "order", "(II)I"⟩
abbrev cX5_ofOrder : ByteArray := prog_1_method_26_code
def yX5_ofOrder : MethodName := ⟨RX5, "ofOrder", "(II)I"⟩
abbrev cX5_torsion : ByteArray := prog_1_method_27_code
def yX5_torsion : MethodName := ⟨RX5, "torsion", "(II)I"⟩
abbrev cX5_made : ByteArray := prog_1_method_28_code
def yX5_made : MethodName := ⟨RX5, "made", "(II)I"⟩
abbrev cX5_halves : ByteArray := prog_1_method_29_code
def yX5_halves : MethodName := ⟨RX5, "halves", "(II)I"⟩
abbrev cX5_half : ByteArray := prog_1_method_30_code
def yX5_half : MethodName := ⟨RX5, "half", "(III)I"⟩
abbrev cX5_log : ByteArray := prog_1_method_31_code
def yX5_log : MethodName := ⟨RX5, "log", "(III)I"⟩
abbrev cX5_embedding : ByteArray := prog_1_method_32_code
def yX5_embedding : MethodName := ⟨RX5, "embedding", "(II)I"⟩
abbrev cX5_quotient : ByteArray := prog_1_method_33_code
def yX5_quotient : MethodName := ⟨RX5, "quotient", "(II)I"⟩
abbrev cX5_image : ByteArray := prog_1_method_34_code
def yX5_image : MethodName := ⟨RX5, "image", "(II)I"⟩
abbrev cX5_kernel : ByteArray := prog_1_method_35_code
def yX5_kernel : MethodName := ⟨RX5, "kernel", "(II)I"⟩
abbrev cX5_sign : ByteArray := prog_1_method_36_code
def yX5_sign : MethodName := ⟨RX5, "sign", "(IIIIII)I"⟩
abbrev cX5_good : ByteArray := prog_1_method_37_code
def yX5_good : MethodName := ⟨RX5, "good", "(IIIIII)I"⟩
abbrev cX5_census : ByteArray := prog_1_method_38_code
def yX5_census : MethodName := ⟨RX5, "census", "(II)I"⟩
abbrev cX5_kinds : ByteArray := prog_1_method_39_code
def yX5_kinds : MethodName := ⟨RX5, "kinds", "(II)I"⟩
abbrev cX5_curves : ByteArray := prog_1_method_40_code
def yX5_curves : MethodName := ⟨RX5, "curves", "()I"⟩
abbrev cX5_drop : ByteArray := prog_1_method_41_code
def yX5_drop : MethodName := ⟨RX5, "drop", "()I"⟩
abbrev cX5_at : ByteArray := prog_1_method_42_code
def yX5_at : MethodName := ⟨RX5, "at", "(I)LPointRings$Curve;"⟩
abbrev cX5_madeByKernel : ByteArray := prog_1_method_43_code
def yX5_madeByKernel : MethodName := ⟨RX5, "madeByKernel", "(I)LPointRings$Curve;"⟩
abbrev cX5_keep : ByteArray := prog_1_method_44_code
def yX5_keep : MethodName := ⟨RX5, "keep", "(LPointRings$Curve;)I"⟩
abbrev cX5_primeOrder : ByteArray := prog_1_method_45_code
def yX5_primeOrder : MethodName := ⟨RX5, "primeOrder", "(LPointRings$Curve;I)I"⟩
def yX5_pair : MethodName := ⟨RX5, "pair", "(II)I"⟩
def yX5_xOf : MethodName := ⟨RX5, "xOf", "(I)I"⟩
def yX5_yOf : MethodName := ⟨RX5, "yOf", "(I)I"⟩
def RX6 : String := "PointRingsModel"
def TX6 : u_T := fun k => match k with
  | 0 => ("PointRingsModel", "p", "I", false)
  | 1 => ("PointRingsModel", "a", "I", false)
  | 2 => ("PointRingsModel", "b", "I", false)
  | 3 => ("PointRingsModel", "inverses", "[I", true)
  | 4 => ("PointRingsModel", "roots", "[I", true)
  | 5 => ("PointRingsModel", "rooted", "I", false)
  | 6 => ("PointRingsModel", "points", "[I", true)
  | 7 => ("PointRingsModel", "pointMany", "I", false)
  | 8 => ("PointRingsModel", "ahead", "[I", true)
  | 9 => ("PointRingsModel", "curves", "I", false)
  | 10 => ("PointRingsModel", "ps", "[I", true)
  | 11 => ("PointRingsModel", "as", "[I", true)
  | 12 => ("PointRingsModel", "bs", "[I", true)
  | 13 => ("PointRingsModel", "from", "[I", true)
  | 14 => ("PointRingsModel", "kernelPoint", "[I", true)
  | 15 => ("PointRingsModel", "kernelOrder", "[I", true)
  | 16 => ("PointRingsModel", "marked", "[Z", true)
  | _ => ("PointRingsModel", "seen", "[Z", true)
def tyX6 : Nat → FieldType := fun k => match k with
  | 0 => .int
  | 1 => .int
  | 2 => .int
  | 3 => .array .int
  | 4 => .array .int
  | 5 => .int
  | 6 => .array .int
  | 7 => .int
  | 8 => .array .int
  | 9 => .int
  | 10 => .array .int
  | 11 => .array .int
  | 12 => .array .int
  | 13 => .array .int
  | 14 => .array .int
  | 15 => .array .int
  | 16 => .array .boolean
  | _ => .array .boolean
abbrev wsX60 : List Cond := u_ws RX6 TX6 18
theorem nmX6 : ∀ a, a < 18 → ∀ b, b < 18 → a ≠ b → (TX6 a).2.1 ≠ (TX6 b).2.1 := by decide +kernel
theorem tyX6_ok : ∀ k, k < 18 → parseFieldDescriptor (TX6 k).2.2.1 = some (tyX6 k) := by decide +kernel
abbrev cX6_init : ByteArray := prog_8_method_1_code
def yX6_init : MethodName := ⟨RX6, "<init>", "()V"⟩
abbrev cX6_in : ByteArray := prog_8_method_3_code
def yX6_in : MethodName := ⟨RX6, "in", "(JJJ)Z"⟩
abbrev cX6_isPrime : ByteArray := prog_8_method_4_code
def yX6_isPrime : MethodName := ⟨RX6, "isPrime", "(I)Z"⟩
abbrev cX6_takePrime : ByteArray := prog_8_method_5_code
def yX6_takePrime : MethodName := ⟨RX6, "takePrime", "(I)V"⟩
abbrev cX6_mod : ByteArray := prog_8_method_6_code
def yX6_mod : MethodName := ⟨RX6, "mod", "(J)I"⟩
abbrev cX6_mul : ByteArray := prog_8_method_7_code
def yX6_mul : MethodName := ⟨RX6, "mul", "(II)I"⟩
abbrev cX6_right : ByteArray := prog_8_method_10_code
def yX6_right : MethodName := ⟨RX6, "right", "(I)I"⟩
abbrev cX6_take : ByteArray := prog_8_method_11_code
def yX6_take : MethodName := ⟨RX6, "take", "(III)V"⟩
abbrev cX6_isWanted : ByteArray := prog_8_method_18_code
def yX6_isWanted : MethodName := ⟨RX6, "isWanted", "(I)Z"⟩
abbrev cX6_split : ByteArray := prog_8_method_19_code
def yX6_split : MethodName := ⟨RX6, "split", "()I"⟩
abbrev cX6_make : ByteArray := prog_8_method_20_code
def yX6_make : MethodName := ⟨RX6, "make", "(III)I"⟩
abbrev cX6_curve : ByteArray := prog_8_method_21_code
def yX6_curve : MethodName := ⟨RX6, "curve", "(III)I"⟩
abbrev cX6_has : ByteArray := prog_8_method_22_code
def yX6_has : MethodName := ⟨RX6, "has", "(I)Z"⟩
abbrev cX6_jOf : ByteArray := prog_8_method_23_code
def yX6_jOf : MethodName := ⟨RX6, "jOf", "()I"⟩
abbrev cX6_told : ByteArray := prog_8_method_24_code
def yX6_told : MethodName := ⟨RX6, "told", "(II)I"⟩
abbrev cX6_twist : ByteArray := prog_8_method_26_code
def yX6_twist : MethodName := ⟨RX6, "twist", "(I)I"⟩
abbrev cX6_map : ByteArray := prog_8_method_27_code
def yX6_map : MethodName := ⟨RX6, "map", "(II)I"⟩
abbrev cX6_mapped : ByteArray := prog_8_method_28_code
def yX6_mapped : MethodName := ⟨RX6, "mapped", "(III)I"⟩
abbrev cX6_root : ByteArray := prog_8_method_29_code
def yX6_root : MethodName := ⟨RX6, "root", "(II)I"⟩
abbrev cX6_inverse : ByteArray := prog_8_method_30_code
def yX6_inverse : MethodName := ⟨RX6, "inverse", "(II)I"⟩
abbrev cX6_power : ByteArray := prog_8_method_31_code
def yX6_power : MethodName := ⟨RX6, "power", "(IIJ)I"⟩
abbrev cX6_generator : ByteArray := prog_8_method_32_code
def yX6_generator : MethodName := ⟨RX6, "generator", "(I)I"⟩
abbrev cX6_point : ByteArray := prog_8_method_33_code
def yX6_point : MethodName := ⟨RX6, "point", "(III)I"⟩
abbrev cX6_lift : ByteArray := prog_8_method_34_code
def yX6_lift : MethodName := ⟨RX6, "lift", "(IIZ)I"⟩
abbrev cX6_near : ByteArray := prog_8_method_35_code
def yX6_near : MethodName := ⟨RX6, "near", "(II)I"⟩
abbrev cX6_nth : ByteArray := prog_8_method_36_code
def yX6_nth : MethodName := ⟨RX6, "nth", "(II)I"⟩
abbrev cX6_rank : ByteArray := prog_8_method_37_code
def yX6_rank : MethodName := ⟨RX6, "rank", "(II)I"⟩
abbrev cX6_add : ByteArray := prog_8_method_38_code
def yX6_add : MethodName := ⟨RX6, "add", "(III)I"⟩
abbrev cX6_negative : ByteArray := prog_8_method_39_code
def yX6_negative : MethodName := ⟨RX6, "negative", "(II)I"⟩
abbrev cX6_times : ByteArray := prog_8_method_40_code
def yX6_times : MethodName := ⟨RX6, "times", "(IIJ)I"⟩
abbrev cX6_alone : ByteArray := prog_8_method_41_code
def yX6_alone : MethodName := ⟨RX6, "alone", "(IIJ)I"⟩
abbrev cX6_count : ByteArray := prog_8_method_42_code
def yX6_count : MethodName := ⟨RX6, "count", "(I)I"⟩
abbrev cX6_countOver : ByteArray := prog_8_method_43_code
def yX6_countOver : MethodName := ⟨RX6, "countOver", "(II)J"⟩
abbrev cX6_bound : ByteArray := prog_8_method_46_code
def yX6_bound : MethodName := ⟨RX6, "bound", "(II)I"⟩
abbrev cX6_proof : ByteArray := prog_8_method_48_code
def yX6_proof : MethodName := ⟨RX6, "proof", "(II)I"⟩
abbrev cX6_supersingular : ByteArray := prog_8_method_49_code
def yX6_supersingular : MethodName := ⟨RX6, "supersingular", "(I)I"⟩
abbrev cX6_order : ByteArray := prog_8_method_50_code
def yX6_order : MethodName := ⟨RX6, "order", "(II)I"⟩
abbrev cX6_ofOrder : ByteArray := prog_8_method_51_code
def yX6_ofOrder : MethodName := ⟨RX6, "ofOrder", "(II)I"⟩
abbrev cX6_torsion : ByteArray := prog_8_method_52_code
def yX6_torsion : MethodName := ⟨RX6, "torsion", "(II)I"⟩
abbrev cX6_made : ByteArray := prog_8_method_55_code
def yX6_made : MethodName := ⟨RX6, "made", "(II)I"⟩
abbrev cX6_halves : ByteArray := prog_8_method_56_code
def yX6_halves : MethodName := ⟨RX6, "halves", "(II)I"⟩
abbrev cX6_half : ByteArray := prog_8_method_57_code
def yX6_half : MethodName := ⟨RX6, "half", "(III)I"⟩
abbrev cX6_log : ByteArray := prog_8_method_58_code
def yX6_log : MethodName := ⟨RX6, "log", "(III)I"⟩
abbrev cX6_embedding : ByteArray := prog_8_method_59_code
def yX6_embedding : MethodName := ⟨RX6, "embedding", "(II)I"⟩
abbrev cX6_quotient : ByteArray := prog_8_method_60_code
def yX6_quotient : MethodName := ⟨RX6, "quotient", "(II)I"⟩
abbrev cX6_image : ByteArray := prog_8_method_61_code
def yX6_image : MethodName := ⟨RX6, "image", "(II)I"⟩
abbrev cX6_kernel : ByteArray := prog_8_method_62_code
def yX6_kernel : MethodName := ⟨RX6, "kernel", "(II)I"⟩
abbrev cX6_sign : ByteArray := prog_8_method_64_code
def yX6_sign : MethodName := ⟨RX6, "sign", "(IIIIII)I"⟩
abbrev cX6_good : ByteArray := prog_8_method_65_code
def yX6_good : MethodName := ⟨RX6, "good", "(IIIIII)I"⟩
abbrev cX6_all : ByteArray := prog_8_method_66_code
def yX6_all : MethodName := ⟨RX6, "all", "(IIZ)I"⟩
abbrev cX6_census : ByteArray := prog_8_method_67_code
def yX6_census : MethodName := ⟨RX6, "census", "(II)I"⟩
abbrev cX6_kinds : ByteArray := prog_8_method_68_code
def yX6_kinds : MethodName := ⟨RX6, "kinds", "(II)I"⟩
abbrev cX6_curves : ByteArray := prog_8_method_69_code
def yX6_curves : MethodName := ⟨RX6, "curves", "()I"⟩
abbrev cX6_drop : ByteArray := prog_8_method_70_code
def yX6_drop : MethodName := ⟨RX6, "drop", "()I"⟩
def wsX0_init : List Cond := .code yX0_init cX0_init 4 none :: ([.methodLink RX0 3 objectInit, .instanceMethod objectInit, .code objectInit ⟨#[0xb1]⟩ 1 none, .fieldLink RX0 9 "PointRings$Curve" "p" "I", .fieldLink RX0 15 "PointRings$Curve" "a" "I", .fieldLink RX0 18 "PointRings$Curve" "b" "I", .fieldLink RX0 21 "PointRings$Curve" "first" "I", .fieldLink RX0 24 "PointRings$Curve" "second" "I"] ++ wsX00)
def wsX4_isBelow : List Cond := .code yX4_isBelow cX4_isBelow 2 (some .boolean) :: ([])
def wsX4_cubicMark : List Cond := .code yX4_cubicMark cX4_cubicMark 3 (some .int) :: ([])
def wsX4_leastFactor : List Cond := .code yX4_leastFactor cX4_leastFactor 2 (some .int) :: ([])
def wsX1_init : List Cond := .code yX1_init cX1_init 1 none :: ([.methodLink RX1 3 objectInit, .instanceMethod objectInit, .code objectInit ⟨#[0xb1]⟩ 1 none, .arrayClass .int, .fieldLink RX1 9 "PointRings$Roots" "least" "[I", .fieldLink RX1 15 "PointRings$Roots" "prime" "I"] ++ wsX10)
def wsX1_lay : List Cond := .code yX1_lay cX1_lay 3 none :: ([.fieldLink RX1 9 "PointRings$Roots" "least" "[I", .fieldLink RX1 15 "PointRings$Roots" "prime" "I"] ++ wsX10)
def wsX1_leastRoot : List Cond := .code yX1_leastRoot cX1_leastRoot 3 (some .int) :: ([.fieldLink RX1 15 "PointRings$Roots" "prime" "I", .fieldLink RX1 9 "PointRings$Roots" "least" "[I", .methodLink RX1 19 yX1_lay, .instanceMethod yX1_lay, .selects RX1 yX1_lay yX1_lay, .initialized RX1, .code yX1_lay cX1_lay 3 none] ++ wsX10)
def wsX2_init : List Cond := .code yX2_init cX2_init 1 none :: ([.methodLink RX2 3 objectInit, .instanceMethod objectInit, .code objectInit ⟨#[0xb1]⟩ 1 none, .arrayClass .int, .fieldLink RX2 9 "PointRings$Strides" "stepAt" "[I", .fieldLink RX2 15 "PointRings$Strides" "ends" "[I", .fieldLink RX2 18 "PointRings$Strides" "order" "I", .fieldLink RX2 22 "PointRings$Strides" "back" "I"] ++ wsX20)
def wsX3_init_r1 : List Cond := [Cond.methodLink RX3 3 objectInit, Cond.instanceMethod objectInit, Cond.code objectInit ⟨#[0xb1]⟩ 1 none, Cond.classLink RX3 9 RX1, Cond.instantiable RX1 2, Cond.initialized RX1, Cond.fieldLink RX3 12 "PointRings$Survey" "roots" "LPointRings$Roots;", Cond.classLink RX3 18 RX2, Cond.instantiable RX2 6, Cond.initialized RX2, Cond.fieldLink RX3 21 "PointRings$Survey" "strides" "LPointRings$Strides;", Cond.arrayClass .int, Cond.fieldLink RX3 25 "PointRings$Survey" "halvesFound" "[I", Cond.methodLink RX3 11 yX1_init, Cond.instanceMethod yX1_init, Cond.code yX1_init cX1_init 1 none, Cond.methodLink RX1 3 objectInit, Cond.fieldLink RX1 9 "PointRings$Roots" "least" "[I", Cond.fieldLink RX1 15 "PointRings$Roots" "prime" "I", Cond.methodLink RX3 20 yX2_init, Cond.instanceMethod yX2_init, Cond.code yX2_init cX2_init 1 none, Cond.methodLink RX2 3 objectInit, Cond.fieldLink RX2 9 "PointRings$Strides" "stepAt" "[I"]
def wsX3_init_r2 : List Cond := [Cond.fieldLink RX2 15 "PointRings$Strides" "ends" "[I", Cond.fieldLink RX2 18 "PointRings$Strides" "order" "I", Cond.fieldLink RX2 22 "PointRings$Strides" "back" "I"]
def wsX3_init : List Cond := .code yX3_init cX3_init 1 none :: ((wsX3_init_r1 ++ wsX3_init_r2) ++ wsX10 ++ wsX30 ++ wsX20)
def wsX3_manyAt : List Cond := .code yX3_manyAt cX3_manyAt 3 (some .int) :: ([.fieldLink RX3 12 "PointRings$Survey" "roots" "LPointRings$Roots;", .methodLink RX3 29 yX1_leastRoot, .instanceMethod yX1_leastRoot, .selects RX1 yX1_leastRoot yX1_leastRoot, .initialized RX1, .code yX1_leastRoot cX1_leastRoot 3 (some .int), .fieldLink RX1 15 "PointRings$Roots" "prime" "I", .fieldLink RX1 9 "PointRings$Roots" "least" "[I", .methodLink RX1 19 yX1_lay, .instanceMethod yX1_lay, .selects RX1 yX1_lay yX1_lay, .code yX1_lay cX1_lay 3 none] ++ wsX30 ++ wsX10)
def wsX3_manyPoints : List Cond := .code yX3_manyPoints cX3_manyPoints 6 (some .int) :: ([.methodLink RX3 67 yX3_manyAt, .instanceMethod yX3_manyAt, .selects RX3 yX3_manyAt yX3_manyAt, .initialized RX3, .code yX3_manyAt cX3_manyAt 3 (some .int), .fieldLink RX3 12 "PointRings$Survey" "roots" "LPointRings$Roots;", .methodLink RX3 29 yX1_leastRoot, .instanceMethod yX1_leastRoot, .selects RX1 yX1_leastRoot yX1_leastRoot, .initialized RX1, .code yX1_leastRoot cX1_leastRoot 3 (some .int), .fieldLink RX1 15 "PointRings$Roots" "prime" "I", .fieldLink RX1 9 "PointRings$Roots" "least" "[I", .methodLink RX1 19 yX1_lay, .instanceMethod yX1_lay, .selects RX1 yX1_lay yX1_lay, .code yX1_lay cX1_lay 3 none] ++ wsX30 ++ wsX10)
def wsX3_manyWithoutA : List Cond := .code yX3_manyWithoutA cX3_manyWithoutA 5 (some .int) :: ([.methodLink RX3 48 yX3_manyPoints, .instanceMethod yX3_manyPoints, .selects RX3 yX3_manyPoints yX3_manyPoints, .initialized RX3, .code yX3_manyPoints cX3_manyPoints 6 (some .int), .methodLink RX3 67 yX3_manyAt, .instanceMethod yX3_manyAt, .selects RX3 yX3_manyAt yX3_manyAt, .code yX3_manyAt cX3_manyAt 3 (some .int), .fieldLink RX3 12 "PointRings$Survey" "roots" "LPointRings$Roots;", .methodLink RX3 29 yX1_leastRoot, .instanceMethod yX1_leastRoot, .selects RX1 yX1_leastRoot yX1_leastRoot, .initialized RX1, .code yX1_leastRoot cX1_leastRoot 3 (some .int), .fieldLink RX1 15 "PointRings$Roots" "prime" "I", .fieldLink RX1 9 "PointRings$Roots" "least" "[I", .methodLink RX1 19 yX1_lay, .instanceMethod yX1_lay, .selects RX1 yX1_lay yX1_lay, .code yX1_lay cX1_lay 3 none] ++ wsX30 ++ wsX10)
def wsX3_manyWithoutB : List Cond := .code yX3_manyWithoutB cX3_manyWithoutB 5 (some .int) :: ([.methodLink RX3 48 yX3_manyPoints, .instanceMethod yX3_manyPoints, .selects RX3 yX3_manyPoints yX3_manyPoints, .initialized RX3, .code yX3_manyPoints cX3_manyPoints 6 (some .int), .methodLink RX3 67 yX3_manyAt, .instanceMethod yX3_manyAt, .selects RX3 yX3_manyAt yX3_manyAt, .code yX3_manyAt cX3_manyAt 3 (some .int), .fieldLink RX3 12 "PointRings$Survey" "roots" "LPointRings$Roots;", .methodLink RX3 29 yX1_leastRoot, .instanceMethod yX1_leastRoot, .selects RX1 yX1_leastRoot yX1_leastRoot, .initialized RX1, .code yX1_leastRoot cX1_leastRoot 3 (some .int), .fieldLink RX1 15 "PointRings$Roots" "prime" "I", .fieldLink RX1 9 "PointRings$Roots" "least" "[I", .methodLink RX1 19 yX1_lay, .instanceMethod yX1_lay, .selects RX1 yX1_lay yX1_lay, .code yX1_lay cX1_lay 3 none] ++ wsX30 ++ wsX10)
def wsX3_pairsWith_r1 : List Cond := [Cond.methodLink RX3 139 yX3_manyWithoutA, Cond.instanceMethod yX3_manyWithoutA, Cond.selects RX3 yX3_manyWithoutA yX3_manyWithoutA, Cond.initialized RX3, Cond.code yX3_manyWithoutA cX3_manyWithoutA 5 (some .int), Cond.methodLink RX3 48 yX3_manyPoints, Cond.instanceMethod yX3_manyPoints, Cond.selects RX3 yX3_manyPoints yX3_manyPoints, Cond.code yX3_manyPoints cX3_manyPoints 6 (some .int), Cond.methodLink RX3 67 yX3_manyAt, Cond.instanceMethod yX3_manyAt, Cond.selects RX3 yX3_manyAt yX3_manyAt, Cond.code yX3_manyAt cX3_manyAt 3 (some .int), Cond.fieldLink RX3 12 "PointRings$Survey" "roots" "LPointRings$Roots;", Cond.methodLink RX3 29 yX1_leastRoot, Cond.instanceMethod yX1_leastRoot, Cond.selects RX1 yX1_leastRoot yX1_leastRoot, Cond.initialized RX1, Cond.code yX1_leastRoot cX1_leastRoot 3 (some .int), Cond.fieldLink RX1 15 "PointRings$Roots" "prime" "I", Cond.fieldLink RX1 9 "PointRings$Roots" "least" "[I", Cond.methodLink RX1 19 yX1_lay, Cond.instanceMethod yX1_lay, Cond.selects RX1 yX1_lay yX1_lay]
def wsX3_pairsWith_r2 : List Cond := [Cond.code yX1_lay cX1_lay 3 none, Cond.methodLink RX3 142 yX3_manyWithoutB, Cond.instanceMethod yX3_manyWithoutB, Cond.selects RX3 yX3_manyWithoutB yX3_manyWithoutB, Cond.code yX3_manyWithoutB cX3_manyWithoutB 5 (some .int)]
def wsX3_pairsWith : List Cond := .code yX3_pairsWith cX3_pairsWith 6 (some .int) :: ((wsX3_pairsWith_r1 ++ wsX3_pairsWith_r2) ++ wsX30 ++ wsX10)
def wsX3_kindsWith_r1 : List Cond := [Cond.methodLink RX3 139 yX3_manyWithoutA, Cond.instanceMethod yX3_manyWithoutA, Cond.selects RX3 yX3_manyWithoutA yX3_manyWithoutA, Cond.initialized RX3, Cond.code yX3_manyWithoutA cX3_manyWithoutA 5 (some .int), Cond.methodLink RX3 48 yX3_manyPoints, Cond.instanceMethod yX3_manyPoints, Cond.selects RX3 yX3_manyPoints yX3_manyPoints, Cond.code yX3_manyPoints cX3_manyPoints 6 (some .int), Cond.methodLink RX3 67 yX3_manyAt, Cond.instanceMethod yX3_manyAt, Cond.selects RX3 yX3_manyAt yX3_manyAt, Cond.code yX3_manyAt cX3_manyAt 3 (some .int), Cond.fieldLink RX3 12 "PointRings$Survey" "roots" "LPointRings$Roots;", Cond.methodLink RX3 29 yX1_leastRoot, Cond.instanceMethod yX1_leastRoot, Cond.selects RX1 yX1_leastRoot yX1_leastRoot, Cond.initialized RX1, Cond.code yX1_leastRoot cX1_leastRoot 3 (some .int), Cond.fieldLink RX1 15 "PointRings$Roots" "prime" "I", Cond.fieldLink RX1 9 "PointRings$Roots" "least" "[I", Cond.methodLink RX1 19 yX1_lay, Cond.instanceMethod yX1_lay, Cond.selects RX1 yX1_lay yX1_lay]
def wsX3_kindsWith_r2 : List Cond := [Cond.code yX1_lay cX1_lay 3 none, Cond.methodLink RX3 142 yX3_manyWithoutB, Cond.instanceMethod yX3_manyWithoutB, Cond.selects RX3 yX3_manyWithoutB yX3_manyWithoutB, Cond.code yX3_manyWithoutB cX3_manyWithoutB 5 (some .int)]
def wsX3_kindsWith : List Cond := .code yX3_kindsWith cX3_kindsWith 6 (some .int) :: ((wsX3_kindsWith_r1 ++ wsX3_kindsWith_r2) ++ wsX30 ++ wsX10)
def wsX4_isPrime : List Cond := .code yX4_isPrime cX4_isPrime 1 (some .boolean) :: ([.methodLink RX4 15 yX4_leastFactor, .static yX4_leastFactor, .initialized RX4, .code yX4_leastFactor cX4_leastFactor 2 (some .int)])
def wsX4_isFieldPrime : List Cond := .code yX4_isFieldPrime cX4_isFieldPrime 1 (some .boolean) :: ([.methodLink RX4 9 yX4_isPrime, .static yX4_isPrime, .initialized RX4, .code yX4_isPrime cX4_isPrime 1 (some .boolean), .methodLink RX4 15 yX4_leastFactor, .static yX4_leastFactor, .code yX4_leastFactor cX4_leastFactor 2 (some .int)])
def wsX5_init_r1 : List Cond := [Cond.methodLink RX5 3 objectInit, Cond.instanceMethod objectInit, Cond.code objectInit ⟨#[0xb1]⟩ 1 none, Cond.classLink RX5 9 RX0, Cond.fieldLink RX5 11 "PointRings" "held" "[LPointRings$Curve;", Cond.fieldLink RX5 15 "PointRings" "size" "I", Cond.classLink RX5 19 RX3, Cond.instantiable RX3 3, Cond.initialized RX3, Cond.fieldLink RX5 22 "PointRings" "survey" "LPointRings$Survey;", Cond.methodLink RX5 21 yX3_init, Cond.instanceMethod yX3_init, Cond.code yX3_init cX3_init 1 none, Cond.methodLink RX3 3 objectInit, Cond.classLink RX3 9 RX1, Cond.instantiable RX1 2, Cond.initialized RX1, Cond.fieldLink RX3 12 "PointRings$Survey" "roots" "LPointRings$Roots;", Cond.classLink RX3 18 RX2, Cond.instantiable RX2 6, Cond.initialized RX2, Cond.fieldLink RX3 21 "PointRings$Survey" "strides" "LPointRings$Strides;", Cond.arrayClass .int, Cond.fieldLink RX3 25 "PointRings$Survey" "halvesFound" "[I"]
def wsX5_init_r2 : List Cond := [Cond.methodLink RX3 11 yX1_init, Cond.instanceMethod yX1_init, Cond.code yX1_init cX1_init 1 none, Cond.methodLink RX1 3 objectInit, Cond.fieldLink RX1 9 "PointRings$Roots" "least" "[I", Cond.fieldLink RX1 15 "PointRings$Roots" "prime" "I", Cond.methodLink RX3 20 yX2_init, Cond.instanceMethod yX2_init, Cond.code yX2_init cX2_init 1 none, Cond.methodLink RX2 3 objectInit, Cond.fieldLink RX2 9 "PointRings$Strides" "stepAt" "[I", Cond.fieldLink RX2 15 "PointRings$Strides" "ends" "[I", Cond.fieldLink RX2 18 "PointRings$Strides" "order" "I", Cond.fieldLink RX2 22 "PointRings$Strides" "back" "I"]
def wsX5_init : List Cond := .code yX5_init cX5_init 1 none :: ((wsX5_init_r1 ++ wsX5_init_r2) ++ wsX50 ++ wsX30 ++ wsX10 ++ wsX20)
def wsX5_keep : List Cond := .code yX5_keep cX5_keep 2 (some .int) :: ([.fieldLink RX5 15 "PointRings" "size" "I", .fieldLink RX5 11 "PointRings" "held" "[LPointRings$Curve;"] ++ wsX50)
def wsX5_curve_r1 : List Cond := [Cond.classLink RX5 9 RX0, Cond.instantiable RX0 12, Cond.initialized RX0, Cond.methodLink RX5 26 yX4_isFieldPrime, Cond.static yX4_isFieldPrime, Cond.initialized RX4, Cond.code yX4_isFieldPrime cX4_isFieldPrime 1 (some .boolean), Cond.methodLink RX4 9 yX4_isPrime, Cond.static yX4_isPrime, Cond.code yX4_isPrime cX4_isPrime 1 (some .boolean), Cond.methodLink RX4 15 yX4_leastFactor, Cond.static yX4_leastFactor, Cond.code yX4_leastFactor cX4_leastFactor 2 (some .int), Cond.methodLink RX5 32 yX4_isBelow, Cond.static yX4_isBelow, Cond.code yX4_isBelow cX4_isBelow 2 (some .boolean), Cond.methodLink RX5 36 yX4_cubicMark, Cond.static yX4_cubicMark, Cond.code yX4_cubicMark cX4_cubicMark 3 (some .int), Cond.methodLink RX5 40 yX0_init, Cond.instanceMethod yX0_init, Cond.code yX0_init cX0_init 4 none, Cond.methodLink RX0 3 objectInit, Cond.instanceMethod objectInit]
def wsX5_curve_r2 : List Cond := [Cond.code objectInit ⟨#[0xb1]⟩ 1 none, Cond.fieldLink RX0 9 "PointRings$Curve" "p" "I", Cond.fieldLink RX0 15 "PointRings$Curve" "a" "I", Cond.fieldLink RX0 18 "PointRings$Curve" "b" "I", Cond.fieldLink RX0 21 "PointRings$Curve" "first" "I", Cond.fieldLink RX0 24 "PointRings$Curve" "second" "I", Cond.methodLink RX5 43 yX5_keep, Cond.instanceMethod yX5_keep, Cond.selects RX5 yX5_keep yX5_keep, Cond.initialized RX5, Cond.code yX5_keep cX5_keep 2 (some .int), Cond.fieldLink RX5 15 "PointRings" "size" "I", Cond.fieldLink RX5 11 "PointRings" "held" "[LPointRings$Curve;"]
def wsX5_curve : List Cond := .code yX5_curve cX5_curve 4 (some .int) :: ((wsX5_curve_r1 ++ wsX5_curve_r2) ++ wsX00 ++ wsX50)
def wsX5_at : List Cond := .code yX5_at cX5_at 2 (some (.object "PointRings$Curve")) :: ([.fieldLink RX5 15 "PointRings" "size" "I", .fieldLink RX5 11 "PointRings" "held" "[LPointRings$Curve;"] ++ wsX50)
def wsX5_census_r1 : List Cond := [Cond.fieldLink RX5 22 "PointRings" "survey" "LPointRings$Survey;", Cond.methodLink RX5 26 yX4_isFieldPrime, Cond.static yX4_isFieldPrime, Cond.initialized RX4, Cond.code yX4_isFieldPrime cX4_isFieldPrime 1 (some .boolean), Cond.methodLink RX4 9 yX4_isPrime, Cond.static yX4_isPrime, Cond.code yX4_isPrime cX4_isPrime 1 (some .boolean), Cond.methodLink RX4 15 yX4_leastFactor, Cond.static yX4_leastFactor, Cond.code yX4_leastFactor cX4_leastFactor 2 (some .int), Cond.methodLink RX5 211 yX3_pairsWith, Cond.instanceMethod yX3_pairsWith, Cond.selects RX3 yX3_pairsWith yX3_pairsWith, Cond.initialized RX3, Cond.code yX3_pairsWith cX3_pairsWith 6 (some .int), Cond.methodLink RX3 139 yX3_manyWithoutA, Cond.instanceMethod yX3_manyWithoutA, Cond.selects RX3 yX3_manyWithoutA yX3_manyWithoutA, Cond.code yX3_manyWithoutA cX3_manyWithoutA 5 (some .int), Cond.methodLink RX3 48 yX3_manyPoints, Cond.instanceMethod yX3_manyPoints, Cond.selects RX3 yX3_manyPoints yX3_manyPoints, Cond.code yX3_manyPoints cX3_manyPoints 6 (some .int)]
def wsX5_census_r2 : List Cond := [Cond.methodLink RX3 67 yX3_manyAt, Cond.instanceMethod yX3_manyAt, Cond.selects RX3 yX3_manyAt yX3_manyAt, Cond.code yX3_manyAt cX3_manyAt 3 (some .int), Cond.fieldLink RX3 12 "PointRings$Survey" "roots" "LPointRings$Roots;", Cond.methodLink RX3 29 yX1_leastRoot, Cond.instanceMethod yX1_leastRoot, Cond.selects RX1 yX1_leastRoot yX1_leastRoot, Cond.initialized RX1, Cond.code yX1_leastRoot cX1_leastRoot 3 (some .int), Cond.fieldLink RX1 15 "PointRings$Roots" "prime" "I", Cond.fieldLink RX1 9 "PointRings$Roots" "least" "[I", Cond.methodLink RX1 19 yX1_lay, Cond.instanceMethod yX1_lay, Cond.selects RX1 yX1_lay yX1_lay, Cond.code yX1_lay cX1_lay 3 none, Cond.methodLink RX3 142 yX3_manyWithoutB, Cond.instanceMethod yX3_manyWithoutB, Cond.selects RX3 yX3_manyWithoutB yX3_manyWithoutB, Cond.code yX3_manyWithoutB cX3_manyWithoutB 5 (some .int)]
def wsX5_census : List Cond := .code yX5_census cX5_census 3 (some .int) :: ((wsX5_census_r1 ++ wsX5_census_r2) ++ wsX50 ++ wsX30 ++ wsX10)
def wsX5_kinds_r1 : List Cond := [Cond.fieldLink RX5 22 "PointRings" "survey" "LPointRings$Survey;", Cond.methodLink RX5 26 yX4_isFieldPrime, Cond.static yX4_isFieldPrime, Cond.initialized RX4, Cond.code yX4_isFieldPrime cX4_isFieldPrime 1 (some .boolean), Cond.methodLink RX4 9 yX4_isPrime, Cond.static yX4_isPrime, Cond.code yX4_isPrime cX4_isPrime 1 (some .boolean), Cond.methodLink RX4 15 yX4_leastFactor, Cond.static yX4_leastFactor, Cond.code yX4_leastFactor cX4_leastFactor 2 (some .int), Cond.methodLink RX5 214 yX3_kindsWith, Cond.instanceMethod yX3_kindsWith, Cond.selects RX3 yX3_kindsWith yX3_kindsWith, Cond.initialized RX3, Cond.code yX3_kindsWith cX3_kindsWith 6 (some .int), Cond.methodLink RX3 139 yX3_manyWithoutA, Cond.instanceMethod yX3_manyWithoutA, Cond.selects RX3 yX3_manyWithoutA yX3_manyWithoutA, Cond.code yX3_manyWithoutA cX3_manyWithoutA 5 (some .int), Cond.methodLink RX3 48 yX3_manyPoints, Cond.instanceMethod yX3_manyPoints, Cond.selects RX3 yX3_manyPoints yX3_manyPoints, Cond.code yX3_manyPoints cX3_manyPoints 6 (some .int)]
def wsX5_kinds_r2 : List Cond := [Cond.methodLink RX3 67 yX3_manyAt, Cond.instanceMethod yX3_manyAt, Cond.selects RX3 yX3_manyAt yX3_manyAt, Cond.code yX3_manyAt cX3_manyAt 3 (some .int), Cond.fieldLink RX3 12 "PointRings$Survey" "roots" "LPointRings$Roots;", Cond.methodLink RX3 29 yX1_leastRoot, Cond.instanceMethod yX1_leastRoot, Cond.selects RX1 yX1_leastRoot yX1_leastRoot, Cond.initialized RX1, Cond.code yX1_leastRoot cX1_leastRoot 3 (some .int), Cond.fieldLink RX1 15 "PointRings$Roots" "prime" "I", Cond.fieldLink RX1 9 "PointRings$Roots" "least" "[I", Cond.methodLink RX1 19 yX1_lay, Cond.instanceMethod yX1_lay, Cond.selects RX1 yX1_lay yX1_lay, Cond.code yX1_lay cX1_lay 3 none, Cond.methodLink RX3 142 yX3_manyWithoutB, Cond.instanceMethod yX3_manyWithoutB, Cond.selects RX3 yX3_manyWithoutB yX3_manyWithoutB, Cond.code yX3_manyWithoutB cX3_manyWithoutB 5 (some .int)]
def wsX5_kinds : List Cond := .code yX5_kinds cX5_kinds 3 (some .int) :: ((wsX5_kinds_r1 ++ wsX5_kinds_r2) ++ wsX50 ++ wsX30 ++ wsX10)
def wsX5_curves : List Cond := .code yX5_curves cX5_curves 1 (some .int) :: ([.fieldLink RX5 15 "PointRings" "size" "I"] ++ wsX50)
def wsX5_drop : List Cond := .code yX5_drop cX5_drop 1 (some .int) :: ([.fieldLink RX5 15 "PointRings" "size" "I", .fieldLink RX5 11 "PointRings" "held" "[LPointRings$Curve;"] ++ wsX50)
def wsX6_init : List Cond := .code yX6_init cX6_init 1 none :: ([.methodLink RX6 1 objectInit, .instanceMethod objectInit, .code objectInit ⟨#[0xb1]⟩ 1 none, .arrayClass .int, .fieldLink RX6 7 "PointRingsModel" "inverses" "[I", .fieldLink RX6 13 "PointRingsModel" "roots" "[I", .fieldLink RX6 16 "PointRingsModel" "points" "[I", .fieldLink RX6 19 "PointRingsModel" "ahead" "[I", .fieldLink RX6 22 "PointRingsModel" "ps" "[I", .fieldLink RX6 25 "PointRingsModel" "as" "[I", .fieldLink RX6 28 "PointRingsModel" "bs" "[I", .fieldLink RX6 31 "PointRingsModel" "from" "[I", .fieldLink RX6 34 "PointRingsModel" "kernelPoint" "[I", .fieldLink RX6 37 "PointRingsModel" "kernelOrder" "[I", .arrayClass .boolean, .fieldLink RX6 40 "PointRingsModel" "marked" "[Z", .fieldLink RX6 44 "PointRingsModel" "seen" "[Z"] ++ wsX60)
def wsX6_in : List Cond := .code yX6_in cX6_in 6 (some .boolean) :: ([])
def wsX6_isPrime : List Cond := .code yX6_isPrime cX6_isPrime 3 (some .boolean) :: ([])
def wsX6_takePrime : List Cond := .code yX6_takePrime cX6_takePrime 3 none :: ([.fieldLink RX6 47 "PointRingsModel" "p" "I", .fieldLink RX6 51 "PointRingsModel" "rooted" "I", .fieldLink RX6 54 "PointRingsModel" "pointMany" "I", .fieldLink RX6 7 "PointRingsModel" "inverses" "[I", .fieldLink RX6 13 "PointRingsModel" "roots" "[I"] ++ wsX60)
def wsX6_mod : List Cond := .code yX6_mod cX6_mod 4 (some .int) :: ([.fieldLink RX6 47 "PointRingsModel" "p" "I"] ++ wsX60)
def wsX6_mul : List Cond := .code yX6_mul cX6_mul 3 (some .int) :: ([.fieldLink RX6 47 "PointRingsModel" "p" "I"] ++ wsX60)
def wsX6_right : List Cond := .code yX6_right cX6_right 2 (some .int) :: ([.fieldLink RX6 61 "PointRingsModel" "a" "I", .fieldLink RX6 64 "PointRingsModel" "b" "I", .methodLink RX6 57 yX6_mul, .instanceMethod yX6_mul, .selects RX6 yX6_mul yX6_mul, .initialized RX6, .code yX6_mul cX6_mul 3 (some .int), .fieldLink RX6 47 "PointRingsModel" "p" "I", .methodLink RX6 67 yX6_mod, .instanceMethod yX6_mod, .selects RX6 yX6_mod yX6_mod, .code yX6_mod cX6_mod 4 (some .int)] ++ wsX60)
def wsX6_take : List Cond := .code yX6_take cX6_take 4 none :: ([.fieldLink RX6 61 "PointRingsModel" "a" "I", .fieldLink RX6 64 "PointRingsModel" "b" "I", .fieldLink RX6 54 "PointRingsModel" "pointMany" "I", .methodLink RX6 71 yX6_takePrime, .instanceMethod yX6_takePrime, .selects RX6 yX6_takePrime yX6_takePrime, .initialized RX6, .code yX6_takePrime cX6_takePrime 3 none, .fieldLink RX6 47 "PointRingsModel" "p" "I", .fieldLink RX6 51 "PointRingsModel" "rooted" "I", .fieldLink RX6 7 "PointRingsModel" "inverses" "[I", .fieldLink RX6 13 "PointRingsModel" "roots" "[I"] ++ wsX60)
def wsX6_isWanted : List Cond := .code yX6_isWanted cX6_isWanted 1 (some .boolean) :: ([.constantLong RX6 96 (5), .constantLong RX6 98 (10007), .methodLink RX6 100 yX6_in, .static yX6_in, .initialized RX6, .code yX6_in cX6_in 6 (some .boolean), .methodLink RX6 104 yX6_isPrime, .static yX6_isPrime, .code yX6_isPrime cX6_isPrime 3 (some .boolean)])
def wsX6_split : List Cond := .code yX6_split cX6_split 1 (some .int) :: ([.constantLong RX6 108 (4), .fieldLink RX6 61 "PointRingsModel" "a" "I", .constantLong RX6 110 (27), .fieldLink RX6 64 "PointRingsModel" "b" "I", .methodLink RX6 57 yX6_mul, .instanceMethod yX6_mul, .selects RX6 yX6_mul yX6_mul, .initialized RX6, .code yX6_mul cX6_mul 3 (some .int), .fieldLink RX6 47 "PointRingsModel" "p" "I", .methodLink RX6 67 yX6_mod, .instanceMethod yX6_mod, .selects RX6 yX6_mod yX6_mod, .code yX6_mod cX6_mod 4 (some .int)] ++ wsX60)
def wsX6_make : List Cond := .code yX6_make cX6_make 4 (some .int) :: ([.fieldLink RX6 22 "PointRingsModel" "ps" "[I", .fieldLink RX6 112 "PointRingsModel" "curves" "I", .fieldLink RX6 25 "PointRingsModel" "as" "[I", .fieldLink RX6 28 "PointRingsModel" "bs" "[I", .fieldLink RX6 31 "PointRingsModel" "from" "[I"] ++ wsX60)
def wsX6_curve_r1 : List Cond := [Cond.fieldLink RX6 112 "PointRingsModel" "curves" "I", Cond.methodLink RX6 115 yX6_isWanted, Cond.static yX6_isWanted, Cond.initialized RX6, Cond.code yX6_isWanted cX6_isWanted 1 (some .boolean), Cond.constantLong RX6 96 (5), Cond.constantLong RX6 98 (10007), Cond.methodLink RX6 100 yX6_in, Cond.static yX6_in, Cond.code yX6_in cX6_in 6 (some .boolean), Cond.methodLink RX6 104 yX6_isPrime, Cond.static yX6_isPrime, Cond.code yX6_isPrime cX6_isPrime 3 (some .boolean), Cond.methodLink RX6 118 yX6_take, Cond.instanceMethod yX6_take, Cond.selects RX6 yX6_take yX6_take, Cond.code yX6_take cX6_take 4 none, Cond.fieldLink RX6 61 "PointRingsModel" "a" "I", Cond.fieldLink RX6 64 "PointRingsModel" "b" "I", Cond.fieldLink RX6 54 "PointRingsModel" "pointMany" "I", Cond.methodLink RX6 71 yX6_takePrime, Cond.instanceMethod yX6_takePrime, Cond.selects RX6 yX6_takePrime yX6_takePrime, Cond.code yX6_takePrime cX6_takePrime 3 none]
def wsX6_curve_r2 : List Cond := [Cond.fieldLink RX6 47 "PointRingsModel" "p" "I", Cond.fieldLink RX6 51 "PointRingsModel" "rooted" "I", Cond.fieldLink RX6 7 "PointRingsModel" "inverses" "[I", Cond.fieldLink RX6 13 "PointRingsModel" "roots" "[I", Cond.methodLink RX6 122 yX6_split, Cond.instanceMethod yX6_split, Cond.selects RX6 yX6_split yX6_split, Cond.code yX6_split cX6_split 1 (some .int), Cond.constantLong RX6 108 (4), Cond.constantLong RX6 110 (27), Cond.methodLink RX6 57 yX6_mul, Cond.instanceMethod yX6_mul, Cond.selects RX6 yX6_mul yX6_mul, Cond.code yX6_mul cX6_mul 3 (some .int), Cond.methodLink RX6 67 yX6_mod, Cond.instanceMethod yX6_mod, Cond.selects RX6 yX6_mod yX6_mod, Cond.code yX6_mod cX6_mod 4 (some .int), Cond.methodLink RX6 126 yX6_make, Cond.instanceMethod yX6_make, Cond.selects RX6 yX6_make yX6_make, Cond.code yX6_make cX6_make 4 (some .int), Cond.fieldLink RX6 22 "PointRingsModel" "ps" "[I", Cond.fieldLink RX6 25 "PointRingsModel" "as" "[I"]
def wsX6_curve_r3 : List Cond := [Cond.fieldLink RX6 28 "PointRingsModel" "bs" "[I", Cond.fieldLink RX6 31 "PointRingsModel" "from" "[I"]
def wsX6_curve : List Cond := .code yX6_curve cX6_curve 4 (some .int) :: ((wsX6_curve_r1 ++ (wsX6_curve_r2 ++ wsX6_curve_r3)) ++ wsX60)
def wsX6_jOf : List Cond := .code yX6_jOf cX6_jOf 2 (some .int) :: ([.fieldLink RX6 61 "PointRingsModel" "a" "I", .constantLong RX6 130 (1728), .fieldLink RX6 7 "PointRingsModel" "inverses" "[I", .methodLink RX6 57 yX6_mul, .instanceMethod yX6_mul, .selects RX6 yX6_mul yX6_mul, .initialized RX6, .code yX6_mul cX6_mul 3 (some .int), .fieldLink RX6 47 "PointRingsModel" "p" "I", .methodLink RX6 67 yX6_mod, .instanceMethod yX6_mod, .selects RX6 yX6_mod yX6_mod, .code yX6_mod cX6_mod 4 (some .int), .methodLink RX6 122 yX6_split, .instanceMethod yX6_split, .selects RX6 yX6_split yX6_split, .code yX6_split cX6_split 1 (some .int), .constantLong RX6 108 (4), .constantLong RX6 110 (27), .fieldLink RX6 64 "PointRingsModel" "b" "I"] ++ wsX60)
def wsX6_all_r1 : List Cond := [Cond.constantLong RX6 96 (5), Cond.constantLong RX6 182 (61), Cond.fieldLink RX6 44 "PointRingsModel" "seen" "[Z", Cond.fieldLink RX6 13 "PointRingsModel" "roots" "[I", Cond.methodLink RX6 100 yX6_in, Cond.static yX6_in, Cond.initialized RX6, Cond.code yX6_in cX6_in 6 (some .boolean), Cond.methodLink RX6 104 yX6_isPrime, Cond.static yX6_isPrime, Cond.code yX6_isPrime cX6_isPrime 3 (some .boolean), Cond.methodLink RX6 71 yX6_takePrime, Cond.instanceMethod yX6_takePrime, Cond.selects RX6 yX6_takePrime yX6_takePrime, Cond.code yX6_takePrime cX6_takePrime 3 none, Cond.fieldLink RX6 47 "PointRingsModel" "p" "I", Cond.fieldLink RX6 51 "PointRingsModel" "rooted" "I", Cond.fieldLink RX6 54 "PointRingsModel" "pointMany" "I", Cond.fieldLink RX6 7 "PointRingsModel" "inverses" "[I", Cond.methodLink RX6 118 yX6_take, Cond.instanceMethod yX6_take, Cond.selects RX6 yX6_take yX6_take, Cond.code yX6_take cX6_take 4 none, Cond.fieldLink RX6 61 "PointRingsModel" "a" "I"]
def wsX6_all_r2 : List Cond := [Cond.fieldLink RX6 64 "PointRingsModel" "b" "I", Cond.methodLink RX6 122 yX6_split, Cond.instanceMethod yX6_split, Cond.selects RX6 yX6_split yX6_split, Cond.code yX6_split cX6_split 1 (some .int), Cond.constantLong RX6 108 (4), Cond.constantLong RX6 110 (27), Cond.methodLink RX6 57 yX6_mul, Cond.instanceMethod yX6_mul, Cond.selects RX6 yX6_mul yX6_mul, Cond.code yX6_mul cX6_mul 3 (some .int), Cond.methodLink RX6 67 yX6_mod, Cond.instanceMethod yX6_mod, Cond.selects RX6 yX6_mod yX6_mod, Cond.code yX6_mod cX6_mod 4 (some .int), Cond.methodLink RX6 75 yX6_right, Cond.instanceMethod yX6_right, Cond.selects RX6 yX6_right yX6_right, Cond.code yX6_right cX6_right 2 (some .int), Cond.methodLink RX6 135 yX6_jOf, Cond.instanceMethod yX6_jOf, Cond.selects RX6 yX6_jOf yX6_jOf, Cond.code yX6_jOf cX6_jOf 2 (some .int), Cond.constantLong RX6 130 (1728)]
def wsX6_all : List Cond := .code yX6_all cX6_all 10 (some .int) :: ((wsX6_all_r1 ++ wsX6_all_r2) ++ wsX60)
def wsX6_census_r1 : List Cond := [Cond.methodLink RX6 184 yX6_all, Cond.instanceMethod yX6_all, Cond.selects RX6 yX6_all yX6_all, Cond.initialized RX6, Cond.code yX6_all cX6_all 10 (some .int), Cond.constantLong RX6 96 (5), Cond.constantLong RX6 182 (61), Cond.fieldLink RX6 44 "PointRingsModel" "seen" "[Z", Cond.fieldLink RX6 13 "PointRingsModel" "roots" "[I", Cond.methodLink RX6 100 yX6_in, Cond.static yX6_in, Cond.code yX6_in cX6_in 6 (some .boolean), Cond.methodLink RX6 104 yX6_isPrime, Cond.static yX6_isPrime, Cond.code yX6_isPrime cX6_isPrime 3 (some .boolean), Cond.methodLink RX6 71 yX6_takePrime, Cond.instanceMethod yX6_takePrime, Cond.selects RX6 yX6_takePrime yX6_takePrime, Cond.code yX6_takePrime cX6_takePrime 3 none, Cond.fieldLink RX6 47 "PointRingsModel" "p" "I", Cond.fieldLink RX6 51 "PointRingsModel" "rooted" "I", Cond.fieldLink RX6 54 "PointRingsModel" "pointMany" "I", Cond.fieldLink RX6 7 "PointRingsModel" "inverses" "[I", Cond.methodLink RX6 118 yX6_take]
def wsX6_census_r2 : List Cond := [Cond.instanceMethod yX6_take, Cond.selects RX6 yX6_take yX6_take, Cond.code yX6_take cX6_take 4 none, Cond.fieldLink RX6 61 "PointRingsModel" "a" "I", Cond.fieldLink RX6 64 "PointRingsModel" "b" "I", Cond.methodLink RX6 122 yX6_split, Cond.instanceMethod yX6_split, Cond.selects RX6 yX6_split yX6_split, Cond.code yX6_split cX6_split 1 (some .int), Cond.constantLong RX6 108 (4), Cond.constantLong RX6 110 (27), Cond.methodLink RX6 57 yX6_mul, Cond.instanceMethod yX6_mul, Cond.selects RX6 yX6_mul yX6_mul, Cond.code yX6_mul cX6_mul 3 (some .int), Cond.methodLink RX6 67 yX6_mod, Cond.instanceMethod yX6_mod, Cond.selects RX6 yX6_mod yX6_mod, Cond.code yX6_mod cX6_mod 4 (some .int), Cond.methodLink RX6 75 yX6_right, Cond.instanceMethod yX6_right, Cond.selects RX6 yX6_right yX6_right, Cond.code yX6_right cX6_right 2 (some .int), Cond.methodLink RX6 135 yX6_jOf]
def wsX6_census_r3 : List Cond := [Cond.instanceMethod yX6_jOf, Cond.selects RX6 yX6_jOf yX6_jOf, Cond.code yX6_jOf cX6_jOf 2 (some .int), Cond.constantLong RX6 130 (1728)]
def wsX6_census : List Cond := .code yX6_census cX6_census 3 (some .int) :: ((wsX6_census_r1 ++ (wsX6_census_r2 ++ wsX6_census_r3)) ++ wsX60)
def wsX6_kinds_r1 : List Cond := [Cond.methodLink RX6 184 yX6_all, Cond.instanceMethod yX6_all, Cond.selects RX6 yX6_all yX6_all, Cond.initialized RX6, Cond.code yX6_all cX6_all 10 (some .int), Cond.constantLong RX6 96 (5), Cond.constantLong RX6 182 (61), Cond.fieldLink RX6 44 "PointRingsModel" "seen" "[Z", Cond.fieldLink RX6 13 "PointRingsModel" "roots" "[I", Cond.methodLink RX6 100 yX6_in, Cond.static yX6_in, Cond.code yX6_in cX6_in 6 (some .boolean), Cond.methodLink RX6 104 yX6_isPrime, Cond.static yX6_isPrime, Cond.code yX6_isPrime cX6_isPrime 3 (some .boolean), Cond.methodLink RX6 71 yX6_takePrime, Cond.instanceMethod yX6_takePrime, Cond.selects RX6 yX6_takePrime yX6_takePrime, Cond.code yX6_takePrime cX6_takePrime 3 none, Cond.fieldLink RX6 47 "PointRingsModel" "p" "I", Cond.fieldLink RX6 51 "PointRingsModel" "rooted" "I", Cond.fieldLink RX6 54 "PointRingsModel" "pointMany" "I", Cond.fieldLink RX6 7 "PointRingsModel" "inverses" "[I", Cond.methodLink RX6 118 yX6_take]
def wsX6_kinds_r2 : List Cond := [Cond.instanceMethod yX6_take, Cond.selects RX6 yX6_take yX6_take, Cond.code yX6_take cX6_take 4 none, Cond.fieldLink RX6 61 "PointRingsModel" "a" "I", Cond.fieldLink RX6 64 "PointRingsModel" "b" "I", Cond.methodLink RX6 122 yX6_split, Cond.instanceMethod yX6_split, Cond.selects RX6 yX6_split yX6_split, Cond.code yX6_split cX6_split 1 (some .int), Cond.constantLong RX6 108 (4), Cond.constantLong RX6 110 (27), Cond.methodLink RX6 57 yX6_mul, Cond.instanceMethod yX6_mul, Cond.selects RX6 yX6_mul yX6_mul, Cond.code yX6_mul cX6_mul 3 (some .int), Cond.methodLink RX6 67 yX6_mod, Cond.instanceMethod yX6_mod, Cond.selects RX6 yX6_mod yX6_mod, Cond.code yX6_mod cX6_mod 4 (some .int), Cond.methodLink RX6 75 yX6_right, Cond.instanceMethod yX6_right, Cond.selects RX6 yX6_right yX6_right, Cond.code yX6_right cX6_right 2 (some .int), Cond.methodLink RX6 135 yX6_jOf]
def wsX6_kinds_r3 : List Cond := [Cond.instanceMethod yX6_jOf, Cond.selects RX6 yX6_jOf yX6_jOf, Cond.code yX6_jOf cX6_jOf 2 (some .int), Cond.constantLong RX6 130 (1728)]
def wsX6_kinds : List Cond := .code yX6_kinds cX6_kinds 3 (some .int) :: ((wsX6_kinds_r1 ++ (wsX6_kinds_r2 ++ wsX6_kinds_r3)) ++ wsX60)
def wsX6_curves : List Cond := .code yX6_curves cX6_curves 1 (some .int) :: ([.fieldLink RX6 112 "PointRingsModel" "curves" "I"] ++ wsX60)
def wsX6_drop : List Cond := .code yX6_drop cX6_drop 1 (some .int) :: ([.fieldLink RX6 112 "PointRingsModel" "curves" "I"] ++ wsX60)
theorem dX0_init_0 : decode cX0_init 0 = .ok (.aload_n 0, 1) := by decide +kernel
theorem dX0_init_1 : decode cX0_init 1 = .ok (.invokespecial 3, 3) := by decide +kernel
theorem dX0_init_4 : decode cX0_init 4 = .ok (.aload_n 0, 1) := by decide +kernel
theorem dX0_init_5 : decode cX0_init 5 = .ok (.iload_n 1, 1) := by decide +kernel
theorem dX0_init_6 : decode cX0_init 6 = .ok (.putfield 9, 3) := by decide +kernel
theorem dX0_init_9 : decode cX0_init 9 = .ok (.aload_n 0, 1) := by decide +kernel
theorem dX0_init_10 : decode cX0_init 10 = .ok (.iload_n 2, 1) := by decide +kernel
theorem dX0_init_11 : decode cX0_init 11 = .ok (.putfield 15, 3) := by decide +kernel
theorem dX0_init_14 : decode cX0_init 14 = .ok (.aload_n 0, 1) := by decide +kernel
theorem dX0_init_15 : decode cX0_init 15 = .ok (.iload_n 3, 1) := by decide +kernel
theorem dX0_init_16 : decode cX0_init 16 = .ok (.putfield 18, 3) := by decide +kernel
theorem dX0_init_19 : decode cX0_init 19 = .ok (.aload_n 0, 1) := by decide +kernel
theorem dX0_init_20 : decode cX0_init 20 = .ok (.iconst (-1), 1) := by decide +kernel
theorem dX0_init_21 : decode cX0_init 21 = .ok (.putfield 21, 3) := by decide +kernel
theorem dX0_init_24 : decode cX0_init 24 = .ok (.aload_n 0, 1) := by decide +kernel
theorem dX0_init_25 : decode cX0_init 25 = .ok (.iconst (-1), 1) := by decide +kernel
theorem dX0_init_26 : decode cX0_init 26 = .ok (.putfield 24, 3) := by decide +kernel
theorem dX0_init_29 : decode cX0_init 29 = .ok (.return_, 1) := by decide +kernel
theorem dX1_init_0 : decode cX1_init 0 = .ok (.aload_n 0, 1) := by decide +kernel
theorem dX1_init_1 : decode cX1_init 1 = .ok (.invokespecial 3, 3) := by decide +kernel
theorem dX1_init_4 : decode cX1_init 4 = .ok (.aload_n 0, 1) := by decide +kernel
theorem dX1_init_5 : decode cX1_init 5 = .ok (.sipush 10007, 3) := by decide +kernel
theorem dX1_init_8 : decode cX1_init 8 = .ok (.newarray .int, 2) := by decide +kernel
theorem dX1_init_10 : decode cX1_init 10 = .ok (.putfield 9, 3) := by decide +kernel
theorem dX1_init_13 : decode cX1_init 13 = .ok (.aload_n 0, 1) := by decide +kernel
theorem dX1_init_14 : decode cX1_init 14 = .ok (.iconst 0, 1) := by decide +kernel
theorem dX1_init_15 : decode cX1_init 15 = .ok (.putfield 15, 3) := by decide +kernel
theorem dX1_init_18 : decode cX1_init 18 = .ok (.return_, 1) := by decide +kernel
set_option maxRecDepth 20000 in
theorem ggX1_leastRoot_X1_lay : GoodIn wsX1_leastRoot wsX1_lay := goodIn_r _ [7, 2, 1, 8, 9] (by decide +kernel) (by decide +kernel)
set_option maxRecDepth 20000 in
theorem gX1_leastRoot_X1_lay : GoodIn wsX1_leastRoot (wsV RX1 19 RX1 yX1_lay wsX1_lay) := goodIn_app (goodIn_of _ (by decide +kernel)) ggX1_leastRoot_X1_lay
theorem dX1_leastRoot_0 : decode cX1_leastRoot 0 = .ok (.iload_n 2, 1) := by decide +kernel
theorem dX1_leastRoot_1 : decode cX1_leastRoot 1 = .ok (.aload_n 0, 1) := by decide +kernel
theorem dX1_leastRoot_2 : decode cX1_leastRoot 2 = .ok (.getfield 15, 3) := by decide +kernel
theorem dX1_leastRoot_5 : decode cX1_leastRoot 5 = .ok (.if_icmp .eq 8, 3) := by decide +kernel
theorem dX1_leastRoot_8 : decode cX1_leastRoot 8 = .ok (.aload_n 0, 1) := by decide +kernel
theorem dX1_leastRoot_9 : decode cX1_leastRoot 9 = .ok (.iload_n 2, 1) := by decide +kernel
theorem dX1_leastRoot_10 : decode cX1_leastRoot 10 = .ok (.invokevirtual 19, 3) := by decide +kernel
theorem dX1_leastRoot_13 : decode cX1_leastRoot 13 = .ok (.iload_n 1, 1) := by decide +kernel
theorem dX1_leastRoot_14 : decode cX1_leastRoot 14 = .ok (.ifCond .lt 20, 3) := by decide +kernel
theorem dX1_leastRoot_17 : decode cX1_leastRoot 17 = .ok (.iload_n 1, 1) := by decide +kernel
theorem dX1_leastRoot_18 : decode cX1_leastRoot 18 = .ok (.aload_n 0, 1) := by decide +kernel
theorem dX1_leastRoot_19 : decode cX1_leastRoot 19 = .ok (.getfield 15, 3) := by decide +kernel
theorem dX1_leastRoot_22 : decode cX1_leastRoot 22 = .ok (.if_icmp .ge 12, 3) := by decide +kernel
theorem dX1_leastRoot_25 : decode cX1_leastRoot 25 = .ok (.aload_n 0, 1) := by decide +kernel
theorem dX1_leastRoot_26 : decode cX1_leastRoot 26 = .ok (.getfield 9, 3) := by decide +kernel
theorem dX1_leastRoot_29 : decode cX1_leastRoot 29 = .ok (.iload_n 1, 1) := by decide +kernel
theorem dX1_leastRoot_30 : decode cX1_leastRoot 30 = .ok (.iaload, 1) := by decide +kernel
theorem dX1_leastRoot_31 : decode cX1_leastRoot 31 = .ok (.goto 4, 3) := by decide +kernel
theorem dX1_leastRoot_34 : decode cX1_leastRoot 34 = .ok (.iconst (-1), 1) := by decide +kernel
theorem dX1_leastRoot_35 : decode cX1_leastRoot 35 = .ok (.ireturn, 1) := by decide +kernel
theorem dX1_lay_0 : decode cX1_lay 0 = .ok (.iload_n 1, 1) := by decide +kernel
theorem dX1_lay_1 : decode cX1_lay 1 = .ok (.iconst 5, 1) := by decide +kernel
theorem dX1_lay_2 : decode cX1_lay 2 = .ok (.if_icmp .lt 12, 3) := by decide +kernel
theorem dX1_lay_5 : decode cX1_lay 5 = .ok (.iload_n 1, 1) := by decide +kernel
theorem dX1_lay_6 : decode cX1_lay 6 = .ok (.aload_n 0, 1) := by decide +kernel
theorem dX1_lay_7 : decode cX1_lay 7 = .ok (.getfield 9, 3) := by decide +kernel
theorem dX1_lay_10 : decode cX1_lay 10 = .ok (.arraylength, 1) := by decide +kernel
theorem dX1_lay_11 : decode cX1_lay 11 = .ok (.if_icmp .le 4, 3) := by decide +kernel
theorem dX1_lay_14 : decode cX1_lay 14 = .ok (.return_, 1) := by decide +kernel
theorem dX1_lay_15 : decode cX1_lay 15 = .ok (.aload_n 0, 1) := by decide +kernel
theorem dX1_lay_16 : decode cX1_lay 16 = .ok (.iload_n 1, 1) := by decide +kernel
theorem dX1_lay_17 : decode cX1_lay 17 = .ok (.putfield 15, 3) := by decide +kernel
theorem dX1_lay_20 : decode cX1_lay 20 = .ok (.iconst 0, 1) := by decide +kernel
theorem dX1_lay_21 : decode cX1_lay 21 = .ok (.istore_n 2, 1) := by decide +kernel
theorem dX1_lay_22 : decode cX1_lay 22 = .ok (.iload_n 2, 1) := by decide +kernel
theorem dX1_lay_23 : decode cX1_lay 23 = .ok (.iload_n 1, 1) := by decide +kernel
theorem dX1_lay_24 : decode cX1_lay 24 = .ok (.if_icmp .ge 16, 3) := by decide +kernel
theorem dX1_lay_27 : decode cX1_lay 27 = .ok (.aload_n 0, 1) := by decide +kernel
theorem dX1_lay_28 : decode cX1_lay 28 = .ok (.getfield 9, 3) := by decide +kernel
theorem dX1_lay_31 : decode cX1_lay 31 = .ok (.iload_n 2, 1) := by decide +kernel
theorem dX1_lay_32 : decode cX1_lay 32 = .ok (.iconst (-1), 1) := by decide +kernel
theorem dX1_lay_33 : decode cX1_lay 33 = .ok (.iastore, 1) := by decide +kernel
theorem dX1_lay_34 : decode cX1_lay 34 = .ok (.iinc 2 1, 3) := by decide +kernel
theorem dX1_lay_37 : decode cX1_lay 37 = .ok (.goto (-15), 3) := by decide +kernel
theorem dX1_lay_40 : decode cX1_lay 40 = .ok (.iload_n 1, 1) := by decide +kernel
theorem dX1_lay_41 : decode cX1_lay 41 = .ok (.iconst 2, 1) := by decide +kernel
theorem dX1_lay_42 : decode cX1_lay 42 = .ok (.idiv, 1) := by decide +kernel
theorem dX1_lay_43 : decode cX1_lay 43 = .ok (.istore_n 2, 1) := by decide +kernel
theorem dX1_lay_44 : decode cX1_lay 44 = .ok (.iload_n 2, 1) := by decide +kernel
theorem dX1_lay_45 : decode cX1_lay 45 = .ok (.ifCond .lt 20, 3) := by decide +kernel
theorem dX1_lay_48 : decode cX1_lay 48 = .ok (.aload_n 0, 1) := by decide +kernel
theorem dX1_lay_49 : decode cX1_lay 49 = .ok (.getfield 9, 3) := by decide +kernel
theorem dX1_lay_52 : decode cX1_lay 52 = .ok (.iload_n 2, 1) := by decide +kernel
theorem dX1_lay_53 : decode cX1_lay 53 = .ok (.iload_n 2, 1) := by decide +kernel
theorem dX1_lay_54 : decode cX1_lay 54 = .ok (.imul, 1) := by decide +kernel
theorem dX1_lay_55 : decode cX1_lay 55 = .ok (.iload_n 1, 1) := by decide +kernel
theorem dX1_lay_56 : decode cX1_lay 56 = .ok (.irem, 1) := by decide +kernel
theorem dX1_lay_57 : decode cX1_lay 57 = .ok (.iload_n 2, 1) := by decide +kernel
theorem dX1_lay_58 : decode cX1_lay 58 = .ok (.iastore, 1) := by decide +kernel
theorem dX1_lay_59 : decode cX1_lay 59 = .ok (.iinc 2 (-1), 3) := by decide +kernel
theorem dX1_lay_62 : decode cX1_lay 62 = .ok (.goto (-18), 3) := by decide +kernel
theorem dX1_lay_65 : decode cX1_lay 65 = .ok (.return_, 1) := by decide +kernel
theorem dX2_init_0 : decode cX2_init 0 = .ok (.aload_n 0, 1) := by decide +kernel
theorem dX2_init_1 : decode cX2_init 1 = .ok (.invokespecial 3, 3) := by decide +kernel
theorem dX2_init_4 : decode cX2_init 4 = .ok (.aload_n 0, 1) := by decide +kernel
theorem dX2_init_5 : decode cX2_init 5 = .ok (.sipush 10007, 3) := by decide +kernel
theorem dX2_init_8 : decode cX2_init 8 = .ok (.newarray .int, 2) := by decide +kernel
theorem dX2_init_10 : decode cX2_init 10 = .ok (.putfield 9, 3) := by decide +kernel
theorem dX2_init_13 : decode cX2_init 13 = .ok (.aload_n 0, 1) := by decide +kernel
theorem dX2_init_14 : decode cX2_init 14 = .ok (.sipush 128, 3) := by decide +kernel
theorem dX2_init_17 : decode cX2_init 17 = .ok (.newarray .int, 2) := by decide +kernel
theorem dX2_init_19 : decode cX2_init 19 = .ok (.putfield 15, 3) := by decide +kernel
theorem dX2_init_22 : decode cX2_init 22 = .ok (.aload_n 0, 1) := by decide +kernel
theorem dX2_init_23 : decode cX2_init 23 = .ok (.iconst 1, 1) := by decide +kernel
theorem dX2_init_24 : decode cX2_init 24 = .ok (.putfield 18, 3) := by decide +kernel
theorem dX2_init_27 : decode cX2_init 27 = .ok (.aload_n 0, 1) := by decide +kernel
theorem dX2_init_28 : decode cX2_init 28 = .ok (.iconst (-1), 1) := by decide +kernel
theorem dX2_init_29 : decode cX2_init 29 = .ok (.putfield 22, 3) := by decide +kernel
theorem dX2_init_32 : decode cX2_init 32 = .ok (.return_, 1) := by decide +kernel
set_option maxRecDepth 20000 in
theorem ggX3_init_X1_init : GoodIn wsX3_init wsX1_init := goodIn_r _ [16, 17, 2, 3, 12, 18, 19, 28, 29] (by decide +kernel) (by decide +kernel)
set_option maxRecDepth 20000 in
theorem gX3_init_X1_init : GoodIn wsX3_init (wsX1_init) := ggX3_init_X1_init
set_option maxRecDepth 20000 in
theorem ggX3_init_X2_init : GoodIn wsX3_init wsX2_init := goodIn_r _ [22, 23, 2, 3, 12, 24, 25, 26, 27, 33, 34, 35, 36, 37, 38] (by decide +kernel) (by decide +kernel)
set_option maxRecDepth 20000 in
theorem gX3_init_X2_init : GoodIn wsX3_init (wsX2_init) := ggX3_init_X2_init
theorem dX3_init_0 : decode cX3_init 0 = .ok (.aload_n 0, 1) := by decide +kernel
theorem dX3_init_1 : decode cX3_init 1 = .ok (.invokespecial 3, 3) := by decide +kernel
theorem dX3_init_4 : decode cX3_init 4 = .ok (.aload_n 0, 1) := by decide +kernel
theorem dX3_init_5 : decode cX3_init 5 = .ok (.new 9, 3) := by decide +kernel
theorem dX3_init_8 : decode cX3_init 8 = .ok (.dup, 1) := by decide +kernel
theorem dX3_init_9 : decode cX3_init 9 = .ok (.invokespecial 11, 3) := by decide +kernel
theorem dX3_init_12 : decode cX3_init 12 = .ok (.putfield 12, 3) := by decide +kernel
theorem dX3_init_15 : decode cX3_init 15 = .ok (.aload_n 0, 1) := by decide +kernel
theorem dX3_init_16 : decode cX3_init 16 = .ok (.new 18, 3) := by decide +kernel
theorem dX3_init_19 : decode cX3_init 19 = .ok (.dup, 1) := by decide +kernel
theorem dX3_init_20 : decode cX3_init 20 = .ok (.invokespecial 20, 3) := by decide +kernel
theorem dX3_init_23 : decode cX3_init 23 = .ok (.putfield 21, 3) := by decide +kernel
theorem dX3_init_26 : decode cX3_init 26 = .ok (.aload_n 0, 1) := by decide +kernel
theorem dX3_init_27 : decode cX3_init 27 = .ok (.iconst 4, 1) := by decide +kernel
theorem dX3_init_28 : decode cX3_init 28 = .ok (.newarray .int, 2) := by decide +kernel
theorem dX3_init_30 : decode cX3_init 30 = .ok (.putfield 25, 3) := by decide +kernel
theorem dX3_init_33 : decode cX3_init 33 = .ok (.return_, 1) := by decide +kernel
set_option maxRecDepth 20000 in
theorem ggX3_manyPoints_X3_manyAt : GoodIn wsX3_manyPoints wsX3_manyAt := goodIn_r _ [5, 6, 7, 8, 9, 10, 11, 12, 13, 14, 15, 16, 17, 18, 19, 20, 21, 22] (by decide +kernel) (by decide +kernel)
set_option maxRecDepth 20000 in
theorem gX3_manyPoints_X3_manyAt : GoodIn wsX3_manyPoints (wsV RX3 67 RX3 yX3_manyAt wsX3_manyAt) := goodIn_app (goodIn_of _ (by decide +kernel)) ggX3_manyPoints_X3_manyAt
theorem dX3_manyPoints_0 : decode cX3_manyPoints 0 = .ok (.iconst 1, 1) := by decide +kernel
theorem dX3_manyPoints_1 : decode cX3_manyPoints 1 = .ok (.istore 4, 2) := by decide +kernel
theorem dX3_manyPoints_3 : decode cX3_manyPoints 3 = .ok (.iconst 0, 1) := by decide +kernel
theorem dX3_manyPoints_4 : decode cX3_manyPoints 4 = .ok (.istore 5, 2) := by decide +kernel
theorem dX3_manyPoints_6 : decode cX3_manyPoints 6 = .ok (.iload 5, 2) := by decide +kernel
theorem dX3_manyPoints_8 : decode cX3_manyPoints 8 = .ok (.iload_n 1, 1) := by decide +kernel
theorem dX3_manyPoints_9 : decode cX3_manyPoints 9 = .ok (.if_icmp .ge 35, 3) := by decide +kernel
theorem dX3_manyPoints_12 : decode cX3_manyPoints 12 = .ok (.iload 4, 2) := by decide +kernel
theorem dX3_manyPoints_14 : decode cX3_manyPoints 14 = .ok (.aload_n 0, 1) := by decide +kernel
theorem dX3_manyPoints_15 : decode cX3_manyPoints 15 = .ok (.iload 5, 2) := by decide +kernel
theorem dX3_manyPoints_17 : decode cX3_manyPoints 17 = .ok (.iload 5, 2) := by decide +kernel
theorem dX3_manyPoints_19 : decode cX3_manyPoints 19 = .ok (.imul, 1) := by decide +kernel
theorem dX3_manyPoints_20 : decode cX3_manyPoints 20 = .ok (.iload_n 2, 1) := by decide +kernel
theorem dX3_manyPoints_21 : decode cX3_manyPoints 21 = .ok (.iadd, 1) := by decide +kernel
theorem dX3_manyPoints_22 : decode cX3_manyPoints 22 = .ok (.iload_n 1, 1) := by decide +kernel
theorem dX3_manyPoints_23 : decode cX3_manyPoints 23 = .ok (.irem, 1) := by decide +kernel
theorem dX3_manyPoints_24 : decode cX3_manyPoints 24 = .ok (.iload 5, 2) := by decide +kernel
theorem dX3_manyPoints_26 : decode cX3_manyPoints 26 = .ok (.imul, 1) := by decide +kernel
theorem dX3_manyPoints_27 : decode cX3_manyPoints 27 = .ok (.iload_n 3, 1) := by decide +kernel
theorem dX3_manyPoints_28 : decode cX3_manyPoints 28 = .ok (.iadd, 1) := by decide +kernel
theorem dX3_manyPoints_29 : decode cX3_manyPoints 29 = .ok (.iload_n 1, 1) := by decide +kernel
theorem dX3_manyPoints_30 : decode cX3_manyPoints 30 = .ok (.irem, 1) := by decide +kernel
theorem dX3_manyPoints_31 : decode cX3_manyPoints 31 = .ok (.iload_n 1, 1) := by decide +kernel
theorem dX3_manyPoints_32 : decode cX3_manyPoints 32 = .ok (.invokevirtual 67, 3) := by decide +kernel
theorem dX3_manyPoints_35 : decode cX3_manyPoints 35 = .ok (.iadd, 1) := by decide +kernel
theorem dX3_manyPoints_36 : decode cX3_manyPoints 36 = .ok (.istore 4, 2) := by decide +kernel
theorem dX3_manyPoints_38 : decode cX3_manyPoints 38 = .ok (.iinc 5 1, 3) := by decide +kernel
theorem dX3_manyPoints_41 : decode cX3_manyPoints 41 = .ok (.goto (-35), 3) := by decide +kernel
theorem dX3_manyPoints_44 : decode cX3_manyPoints 44 = .ok (.iload 4, 2) := by decide +kernel
theorem dX3_manyPoints_46 : decode cX3_manyPoints 46 = .ok (.ireturn, 1) := by decide +kernel
set_option maxRecDepth 20000 in
theorem ggX3_manyAt_X1_leastRoot : GoodIn wsX3_manyAt wsX1_leastRoot := goodIn_r _ [6, 7, 8, 9, 10, 11, 5, 12, 16, 17] (by decide +kernel) (by decide +kernel)
set_option maxRecDepth 20000 in
theorem gX3_manyAt_X1_leastRoot : GoodIn wsX3_manyAt (wsV RX3 29 RX1 yX1_leastRoot wsX1_leastRoot) := goodIn_app (goodIn_of _ (by decide +kernel)) ggX3_manyAt_X1_leastRoot
theorem dX3_manyAt_0 : decode cX3_manyAt 0 = .ok (.iload_n 1, 1) := by decide +kernel
theorem dX3_manyAt_1 : decode cX3_manyAt 1 = .ok (.ifCond .ne 5, 3) := by decide +kernel
theorem dX3_manyAt_4 : decode cX3_manyAt 4 = .ok (.iconst 1, 1) := by decide +kernel
theorem dX3_manyAt_5 : decode cX3_manyAt 5 = .ok (.ireturn, 1) := by decide +kernel
theorem dX3_manyAt_6 : decode cX3_manyAt 6 = .ok (.aload_n 0, 1) := by decide +kernel
theorem dX3_manyAt_7 : decode cX3_manyAt 7 = .ok (.getfield 12, 3) := by decide +kernel
theorem dX3_manyAt_10 : decode cX3_manyAt 10 = .ok (.iload_n 1, 1) := by decide +kernel
theorem dX3_manyAt_11 : decode cX3_manyAt 11 = .ok (.iload_n 2, 1) := by decide +kernel
theorem dX3_manyAt_12 : decode cX3_manyAt 12 = .ok (.invokevirtual 29, 3) := by decide +kernel
theorem dX3_manyAt_15 : decode cX3_manyAt 15 = .ok (.ifCond .le 7, 3) := by decide +kernel
theorem dX3_manyAt_18 : decode cX3_manyAt 18 = .ok (.iconst 2, 1) := by decide +kernel
theorem dX3_manyAt_19 : decode cX3_manyAt 19 = .ok (.goto 4, 3) := by decide +kernel
theorem dX3_manyAt_22 : decode cX3_manyAt 22 = .ok (.iconst 0, 1) := by decide +kernel
theorem dX3_manyAt_23 : decode cX3_manyAt 23 = .ok (.ireturn, 1) := by decide +kernel
set_option maxRecDepth 20000 in
theorem ggX3_pairsWith_X3_manyWithoutA : GoodIn wsX3_pairsWith wsX3_manyWithoutA := goodIn_r _ [5, 6, 7, 8, 4, 9, 10, 11, 12, 13, 14, 15, 16, 17, 18, 19, 20, 21, 22, 23, 24, 25, 30, 31, 32, 33, 34] (by decide +kernel) (by decide +kernel)
set_option maxRecDepth 20000 in
theorem gX3_pairsWith_X3_manyWithoutA : GoodIn wsX3_pairsWith (wsV RX3 139 RX3 yX3_manyWithoutA wsX3_manyWithoutA) := goodIn_app (goodIn_of _ (by decide +kernel)) ggX3_pairsWith_X3_manyWithoutA
set_option maxRecDepth 20000 in
theorem ggX3_pairsWith_X3_manyWithoutB : GoodIn wsX3_pairsWith wsX3_manyWithoutB := goodIn_r _ [29, 6, 7, 8, 4, 9, 10, 11, 12, 13, 14, 15, 16, 17, 18, 19, 20, 21, 22, 23, 24, 25, 30, 31, 32, 33, 34] (by decide +kernel) (by decide +kernel)
set_option maxRecDepth 20000 in
theorem gX3_pairsWith_X3_manyWithoutB : GoodIn wsX3_pairsWith (wsV RX3 142 RX3 yX3_manyWithoutB wsX3_manyWithoutB) := goodIn_app (goodIn_of _ (by decide +kernel)) ggX3_pairsWith_X3_manyWithoutB
set_option maxRecDepth 20000 in
theorem ggX3_pairsWith_X3_manyPoints : GoodIn wsX3_pairsWith wsX3_manyPoints := goodIn_r _ [9, 10, 11, 12, 4, 13, 14, 15, 16, 17, 18, 19, 20, 21, 22, 23, 24, 25, 30, 31, 32, 33, 34] (by decide +kernel) (by decide +kernel)
set_option maxRecDepth 20000 in
theorem gX3_pairsWith_X3_manyPoints : GoodIn wsX3_pairsWith (wsV RX3 48 RX3 yX3_manyPoints wsX3_manyPoints) := goodIn_app (goodIn_of _ (by decide +kernel)) ggX3_pairsWith_X3_manyPoints
theorem dX3_pairsWith_0 : decode cX3_pairsWith 0 = .ok (.aload_n 0, 1) := by decide +kernel
theorem dX3_pairsWith_1 : decode cX3_pairsWith 1 = .ok (.iload_n 1, 1) := by decide +kernel
theorem dX3_pairsWith_2 : decode cX3_pairsWith 2 = .ok (.iload_n 2, 1) := by decide +kernel
theorem dX3_pairsWith_3 : decode cX3_pairsWith 3 = .ok (.invokevirtual 139, 3) := by decide +kernel
theorem dX3_pairsWith_6 : decode cX3_pairsWith 6 = .ok (.aload_n 0, 1) := by decide +kernel
theorem dX3_pairsWith_7 : decode cX3_pairsWith 7 = .ok (.iload_n 1, 1) := by decide +kernel
theorem dX3_pairsWith_8 : decode cX3_pairsWith 8 = .ok (.iload_n 2, 1) := by decide +kernel
theorem dX3_pairsWith_9 : decode cX3_pairsWith 9 = .ok (.invokevirtual 142, 3) := by decide +kernel
theorem dX3_pairsWith_12 : decode cX3_pairsWith 12 = .ok (.iadd, 1) := by decide +kernel
theorem dX3_pairsWith_13 : decode cX3_pairsWith 13 = .ok (.istore_n 3, 1) := by decide +kernel
theorem dX3_pairsWith_14 : decode cX3_pairsWith 14 = .ok (.iconst 1, 1) := by decide +kernel
theorem dX3_pairsWith_15 : decode cX3_pairsWith 15 = .ok (.istore 4, 2) := by decide +kernel
theorem dX3_pairsWith_17 : decode cX3_pairsWith 17 = .ok (.iload 4, 2) := by decide +kernel
theorem dX3_pairsWith_19 : decode cX3_pairsWith 19 = .ok (.iload_n 1, 1) := by decide +kernel
theorem dX3_pairsWith_20 : decode cX3_pairsWith 20 = .ok (.iconst 1, 1) := by decide +kernel
theorem dX3_pairsWith_21 : decode cX3_pairsWith 21 = .ok (.isub, 1) := by decide +kernel
theorem dX3_pairsWith_22 : decode cX3_pairsWith 22 = .ok (.if_icmp .ge 70, 3) := by decide +kernel
theorem dX3_pairsWith_25 : decode cX3_pairsWith 25 = .ok (.aload_n 0, 1) := by decide +kernel
theorem dX3_pairsWith_26 : decode cX3_pairsWith 26 = .ok (.iload_n 1, 1) := by decide +kernel
theorem dX3_pairsWith_27 : decode cX3_pairsWith 27 = .ok (.iconst 3, 1) := by decide +kernel
theorem dX3_pairsWith_28 : decode cX3_pairsWith 28 = .ok (.iload 4, 2) := by decide +kernel
theorem dX3_pairsWith_30 : decode cX3_pairsWith 30 = .ok (.imul, 1) := by decide +kernel
theorem dX3_pairsWith_31 : decode cX3_pairsWith 31 = .ok (.iload_n 1, 1) := by decide +kernel
theorem dX3_pairsWith_32 : decode cX3_pairsWith 32 = .ok (.irem, 1) := by decide +kernel
theorem dX3_pairsWith_33 : decode cX3_pairsWith 33 = .ok (.iconst 2, 1) := by decide +kernel
theorem dX3_pairsWith_34 : decode cX3_pairsWith 34 = .ok (.iload 4, 2) := by decide +kernel
theorem dX3_pairsWith_36 : decode cX3_pairsWith 36 = .ok (.imul, 1) := by decide +kernel
theorem dX3_pairsWith_37 : decode cX3_pairsWith 37 = .ok (.iload_n 1, 1) := by decide +kernel
theorem dX3_pairsWith_38 : decode cX3_pairsWith 38 = .ok (.irem, 1) := by decide +kernel
theorem dX3_pairsWith_39 : decode cX3_pairsWith 39 = .ok (.invokevirtual 48, 3) := by decide +kernel
theorem dX3_pairsWith_42 : decode cX3_pairsWith 42 = .ok (.istore 5, 2) := by decide +kernel
theorem dX3_pairsWith_44 : decode cX3_pairsWith 44 = .ok (.iload_n 3, 1) := by decide +kernel
theorem dX3_pairsWith_45 : decode cX3_pairsWith 45 = .ok (.iload 5, 2) := by decide +kernel
theorem dX3_pairsWith_47 : decode cX3_pairsWith 47 = .ok (.iload_n 2, 1) := by decide +kernel
theorem dX3_pairsWith_48 : decode cX3_pairsWith 48 = .ok (.if_icmp .ne 11, 3) := by decide +kernel
theorem dX3_pairsWith_51 : decode cX3_pairsWith 51 = .ok (.iload_n 1, 1) := by decide +kernel
theorem dX3_pairsWith_52 : decode cX3_pairsWith 52 = .ok (.iconst 1, 1) := by decide +kernel
theorem dX3_pairsWith_53 : decode cX3_pairsWith 53 = .ok (.isub, 1) := by decide +kernel
theorem dX3_pairsWith_54 : decode cX3_pairsWith 54 = .ok (.iconst 2, 1) := by decide +kernel
theorem dX3_pairsWith_55 : decode cX3_pairsWith 55 = .ok (.idiv, 1) := by decide +kernel
theorem dX3_pairsWith_56 : decode cX3_pairsWith 56 = .ok (.goto 4, 3) := by decide +kernel
theorem dX3_pairsWith_59 : decode cX3_pairsWith 59 = .ok (.iconst 0, 1) := by decide +kernel
theorem dX3_pairsWith_60 : decode cX3_pairsWith 60 = .ok (.iadd, 1) := by decide +kernel
theorem dX3_pairsWith_61 : decode cX3_pairsWith 61 = .ok (.istore_n 3, 1) := by decide +kernel
theorem dX3_pairsWith_62 : decode cX3_pairsWith 62 = .ok (.iload_n 3, 1) := by decide +kernel
theorem dX3_pairsWith_63 : decode cX3_pairsWith 63 = .ok (.iconst 2, 1) := by decide +kernel
theorem dX3_pairsWith_64 : decode cX3_pairsWith 64 = .ok (.iload_n 1, 1) := by decide +kernel
theorem dX3_pairsWith_65 : decode cX3_pairsWith 65 = .ok (.imul, 1) := by decide +kernel
theorem dX3_pairsWith_66 : decode cX3_pairsWith 66 = .ok (.iconst 2, 1) := by decide +kernel
theorem dX3_pairsWith_67 : decode cX3_pairsWith 67 = .ok (.iadd, 1) := by decide +kernel
theorem dX3_pairsWith_68 : decode cX3_pairsWith 68 = .ok (.iload 5, 2) := by decide +kernel
theorem dX3_pairsWith_70 : decode cX3_pairsWith 70 = .ok (.isub, 1) := by decide +kernel
theorem dX3_pairsWith_71 : decode cX3_pairsWith 71 = .ok (.iload_n 2, 1) := by decide +kernel
theorem dX3_pairsWith_72 : decode cX3_pairsWith 72 = .ok (.if_icmp .ne 11, 3) := by decide +kernel
theorem dX3_pairsWith_75 : decode cX3_pairsWith 75 = .ok (.iload_n 1, 1) := by decide +kernel
theorem dX3_pairsWith_76 : decode cX3_pairsWith 76 = .ok (.iconst 1, 1) := by decide +kernel
theorem dX3_pairsWith_77 : decode cX3_pairsWith 77 = .ok (.isub, 1) := by decide +kernel
theorem dX3_pairsWith_78 : decode cX3_pairsWith 78 = .ok (.iconst 2, 1) := by decide +kernel
theorem dX3_pairsWith_79 : decode cX3_pairsWith 79 = .ok (.idiv, 1) := by decide +kernel
theorem dX3_pairsWith_80 : decode cX3_pairsWith 80 = .ok (.goto 4, 3) := by decide +kernel
theorem dX3_pairsWith_83 : decode cX3_pairsWith 83 = .ok (.iconst 0, 1) := by decide +kernel
theorem dX3_pairsWith_84 : decode cX3_pairsWith 84 = .ok (.iadd, 1) := by decide +kernel
theorem dX3_pairsWith_85 : decode cX3_pairsWith 85 = .ok (.istore_n 3, 1) := by decide +kernel
theorem dX3_pairsWith_86 : decode cX3_pairsWith 86 = .ok (.iinc 4 1, 3) := by decide +kernel
theorem dX3_pairsWith_89 : decode cX3_pairsWith 89 = .ok (.goto (-72), 3) := by decide +kernel
theorem dX3_pairsWith_92 : decode cX3_pairsWith 92 = .ok (.iload_n 3, 1) := by decide +kernel
theorem dX3_pairsWith_93 : decode cX3_pairsWith 93 = .ok (.ireturn, 1) := by decide +kernel
set_option maxRecDepth 20000 in
theorem ggX3_kindsWith_X3_manyWithoutA : GoodIn wsX3_kindsWith wsX3_manyWithoutA := goodIn_r _ [5, 6, 7, 8, 4, 9, 10, 11, 12, 13, 14, 15, 16, 17, 18, 19, 20, 21, 22, 23, 24, 25, 30, 31, 32, 33, 34] (by decide +kernel) (by decide +kernel)
set_option maxRecDepth 20000 in
theorem gX3_kindsWith_X3_manyWithoutA : GoodIn wsX3_kindsWith (wsV RX3 139 RX3 yX3_manyWithoutA wsX3_manyWithoutA) := goodIn_app (goodIn_of _ (by decide +kernel)) ggX3_kindsWith_X3_manyWithoutA
set_option maxRecDepth 20000 in
theorem ggX3_kindsWith_X3_manyWithoutB : GoodIn wsX3_kindsWith wsX3_manyWithoutB := goodIn_r _ [29, 6, 7, 8, 4, 9, 10, 11, 12, 13, 14, 15, 16, 17, 18, 19, 20, 21, 22, 23, 24, 25, 30, 31, 32, 33, 34] (by decide +kernel) (by decide +kernel)
set_option maxRecDepth 20000 in
theorem gX3_kindsWith_X3_manyWithoutB : GoodIn wsX3_kindsWith (wsV RX3 142 RX3 yX3_manyWithoutB wsX3_manyWithoutB) := goodIn_app (goodIn_of _ (by decide +kernel)) ggX3_kindsWith_X3_manyWithoutB
set_option maxRecDepth 20000 in
theorem ggX3_kindsWith_X3_manyPoints : GoodIn wsX3_kindsWith wsX3_manyPoints := goodIn_r _ [9, 10, 11, 12, 4, 13, 14, 15, 16, 17, 18, 19, 20, 21, 22, 23, 24, 25, 30, 31, 32, 33, 34] (by decide +kernel) (by decide +kernel)
set_option maxRecDepth 20000 in
theorem gX3_kindsWith_X3_manyPoints : GoodIn wsX3_kindsWith (wsV RX3 48 RX3 yX3_manyPoints wsX3_manyPoints) := goodIn_app (goodIn_of _ (by decide +kernel)) ggX3_kindsWith_X3_manyPoints
theorem dX3_kindsWith_0 : decode cX3_kindsWith 0 = .ok (.aload_n 0, 1) := by decide +kernel
theorem dX3_kindsWith_1 : decode cX3_kindsWith 1 = .ok (.iload_n 1, 1) := by decide +kernel
theorem dX3_kindsWith_2 : decode cX3_kindsWith 2 = .ok (.iload_n 2, 1) := by decide +kernel
theorem dX3_kindsWith_3 : decode cX3_kindsWith 3 = .ok (.invokevirtual 139, 3) := by decide +kernel
theorem dX3_kindsWith_6 : decode cX3_kindsWith 6 = .ok (.ifCond .le 7, 3) := by decide +kernel
theorem dX3_kindsWith_9 : decode cX3_kindsWith 9 = .ok (.iconst 1, 1) := by decide +kernel
theorem dX3_kindsWith_10 : decode cX3_kindsWith 10 = .ok (.goto 4, 3) := by decide +kernel
theorem dX3_kindsWith_13 : decode cX3_kindsWith 13 = .ok (.iconst 0, 1) := by decide +kernel
theorem dX3_kindsWith_14 : decode cX3_kindsWith 14 = .ok (.istore_n 3, 1) := by decide +kernel
theorem dX3_kindsWith_15 : decode cX3_kindsWith 15 = .ok (.iload_n 3, 1) := by decide +kernel
theorem dX3_kindsWith_16 : decode cX3_kindsWith 16 = .ok (.aload_n 0, 1) := by decide +kernel
theorem dX3_kindsWith_17 : decode cX3_kindsWith 17 = .ok (.iload_n 1, 1) := by decide +kernel
theorem dX3_kindsWith_18 : decode cX3_kindsWith 18 = .ok (.iload_n 2, 1) := by decide +kernel
theorem dX3_kindsWith_19 : decode cX3_kindsWith 19 = .ok (.invokevirtual 142, 3) := by decide +kernel
theorem dX3_kindsWith_22 : decode cX3_kindsWith 22 = .ok (.ifCond .le 7, 3) := by decide +kernel
theorem dX3_kindsWith_25 : decode cX3_kindsWith 25 = .ok (.iconst 1, 1) := by decide +kernel
theorem dX3_kindsWith_26 : decode cX3_kindsWith 26 = .ok (.goto 4, 3) := by decide +kernel
theorem dX3_kindsWith_29 : decode cX3_kindsWith 29 = .ok (.iconst 0, 1) := by decide +kernel
theorem dX3_kindsWith_30 : decode cX3_kindsWith 30 = .ok (.iadd, 1) := by decide +kernel
theorem dX3_kindsWith_31 : decode cX3_kindsWith 31 = .ok (.istore_n 3, 1) := by decide +kernel
theorem dX3_kindsWith_32 : decode cX3_kindsWith 32 = .ok (.iconst 1, 1) := by decide +kernel
theorem dX3_kindsWith_33 : decode cX3_kindsWith 33 = .ok (.istore 4, 2) := by decide +kernel
theorem dX3_kindsWith_35 : decode cX3_kindsWith 35 = .ok (.iload 4, 2) := by decide +kernel
theorem dX3_kindsWith_37 : decode cX3_kindsWith 37 = .ok (.iload_n 1, 1) := by decide +kernel
theorem dX3_kindsWith_38 : decode cX3_kindsWith 38 = .ok (.iconst 1, 1) := by decide +kernel
theorem dX3_kindsWith_39 : decode cX3_kindsWith 39 = .ok (.isub, 1) := by decide +kernel
theorem dX3_kindsWith_40 : decode cX3_kindsWith 40 = .ok (.if_icmp .ge 54, 3) := by decide +kernel
theorem dX3_kindsWith_43 : decode cX3_kindsWith 43 = .ok (.aload_n 0, 1) := by decide +kernel
theorem dX3_kindsWith_44 : decode cX3_kindsWith 44 = .ok (.iload_n 1, 1) := by decide +kernel
theorem dX3_kindsWith_45 : decode cX3_kindsWith 45 = .ok (.iconst 3, 1) := by decide +kernel
theorem dX3_kindsWith_46 : decode cX3_kindsWith 46 = .ok (.iload 4, 2) := by decide +kernel
theorem dX3_kindsWith_48 : decode cX3_kindsWith 48 = .ok (.imul, 1) := by decide +kernel
theorem dX3_kindsWith_49 : decode cX3_kindsWith 49 = .ok (.iload_n 1, 1) := by decide +kernel
theorem dX3_kindsWith_50 : decode cX3_kindsWith 50 = .ok (.irem, 1) := by decide +kernel
theorem dX3_kindsWith_51 : decode cX3_kindsWith 51 = .ok (.iconst 2, 1) := by decide +kernel
theorem dX3_kindsWith_52 : decode cX3_kindsWith 52 = .ok (.iload 4, 2) := by decide +kernel
theorem dX3_kindsWith_54 : decode cX3_kindsWith 54 = .ok (.imul, 1) := by decide +kernel
theorem dX3_kindsWith_55 : decode cX3_kindsWith 55 = .ok (.iload_n 1, 1) := by decide +kernel
theorem dX3_kindsWith_56 : decode cX3_kindsWith 56 = .ok (.irem, 1) := by decide +kernel
theorem dX3_kindsWith_57 : decode cX3_kindsWith 57 = .ok (.invokevirtual 48, 3) := by decide +kernel
theorem dX3_kindsWith_60 : decode cX3_kindsWith 60 = .ok (.istore 5, 2) := by decide +kernel
theorem dX3_kindsWith_62 : decode cX3_kindsWith 62 = .ok (.iload_n 3, 1) := by decide +kernel
theorem dX3_kindsWith_63 : decode cX3_kindsWith 63 = .ok (.iload 5, 2) := by decide +kernel
theorem dX3_kindsWith_65 : decode cX3_kindsWith 65 = .ok (.iload_n 2, 1) := by decide +kernel
theorem dX3_kindsWith_66 : decode cX3_kindsWith 66 = .ok (.if_icmp .eq 15, 3) := by decide +kernel
theorem dX3_kindsWith_69 : decode cX3_kindsWith 69 = .ok (.iconst 2, 1) := by decide +kernel
theorem dX3_kindsWith_70 : decode cX3_kindsWith 70 = .ok (.iload_n 1, 1) := by decide +kernel
theorem dX3_kindsWith_71 : decode cX3_kindsWith 71 = .ok (.imul, 1) := by decide +kernel
theorem dX3_kindsWith_72 : decode cX3_kindsWith 72 = .ok (.iconst 2, 1) := by decide +kernel
theorem dX3_kindsWith_73 : decode cX3_kindsWith 73 = .ok (.iadd, 1) := by decide +kernel
theorem dX3_kindsWith_74 : decode cX3_kindsWith 74 = .ok (.iload 5, 2) := by decide +kernel
theorem dX3_kindsWith_76 : decode cX3_kindsWith 76 = .ok (.isub, 1) := by decide +kernel
theorem dX3_kindsWith_77 : decode cX3_kindsWith 77 = .ok (.iload_n 2, 1) := by decide +kernel
theorem dX3_kindsWith_78 : decode cX3_kindsWith 78 = .ok (.if_icmp .ne 7, 3) := by decide +kernel
theorem dX3_kindsWith_81 : decode cX3_kindsWith 81 = .ok (.iconst 1, 1) := by decide +kernel
theorem dX3_kindsWith_82 : decode cX3_kindsWith 82 = .ok (.goto 4, 3) := by decide +kernel
theorem dX3_kindsWith_85 : decode cX3_kindsWith 85 = .ok (.iconst 0, 1) := by decide +kernel
theorem dX3_kindsWith_86 : decode cX3_kindsWith 86 = .ok (.iadd, 1) := by decide +kernel
theorem dX3_kindsWith_87 : decode cX3_kindsWith 87 = .ok (.istore_n 3, 1) := by decide +kernel
theorem dX3_kindsWith_88 : decode cX3_kindsWith 88 = .ok (.iinc 4 1, 3) := by decide +kernel
theorem dX3_kindsWith_91 : decode cX3_kindsWith 91 = .ok (.goto (-56), 3) := by decide +kernel
theorem dX3_kindsWith_94 : decode cX3_kindsWith 94 = .ok (.iload_n 3, 1) := by decide +kernel
theorem dX3_kindsWith_95 : decode cX3_kindsWith 95 = .ok (.ireturn, 1) := by decide +kernel
set_option maxRecDepth 20000 in
theorem ggX3_manyWithoutA_X3_manyPoints : GoodIn wsX3_manyWithoutA wsX3_manyPoints := goodIn_r _ [5, 6, 7, 8, 4, 9, 10, 11, 12, 13, 14, 15, 16, 17, 18, 19, 20, 21, 22, 23, 24, 25, 26] (by decide +kernel) (by decide +kernel)
set_option maxRecDepth 20000 in
theorem gX3_manyWithoutA_X3_manyPoints : GoodIn wsX3_manyWithoutA (wsV RX3 48 RX3 yX3_manyPoints wsX3_manyPoints) := goodIn_app (goodIn_of _ (by decide +kernel)) ggX3_manyWithoutA_X3_manyPoints
theorem dX3_manyWithoutA_0 : decode cX3_manyWithoutA 0 = .ok (.iconst 0, 1) := by decide +kernel
theorem dX3_manyWithoutA_1 : decode cX3_manyWithoutA 1 = .ok (.istore_n 3, 1) := by decide +kernel
theorem dX3_manyWithoutA_2 : decode cX3_manyWithoutA 2 = .ok (.iconst 1, 1) := by decide +kernel
theorem dX3_manyWithoutA_3 : decode cX3_manyWithoutA 3 = .ok (.istore 4, 2) := by decide +kernel
theorem dX3_manyWithoutA_5 : decode cX3_manyWithoutA 5 = .ok (.iload 4, 2) := by decide +kernel
theorem dX3_manyWithoutA_7 : decode cX3_manyWithoutA 7 = .ok (.iload_n 1, 1) := by decide +kernel
theorem dX3_manyWithoutA_8 : decode cX3_manyWithoutA 8 = .ok (.if_icmp .ge 29, 3) := by decide +kernel
theorem dX3_manyWithoutA_11 : decode cX3_manyWithoutA 11 = .ok (.iload_n 3, 1) := by decide +kernel
theorem dX3_manyWithoutA_12 : decode cX3_manyWithoutA 12 = .ok (.aload_n 0, 1) := by decide +kernel
theorem dX3_manyWithoutA_13 : decode cX3_manyWithoutA 13 = .ok (.iload_n 1, 1) := by decide +kernel
theorem dX3_manyWithoutA_14 : decode cX3_manyWithoutA 14 = .ok (.iconst 0, 1) := by decide +kernel
theorem dX3_manyWithoutA_15 : decode cX3_manyWithoutA 15 = .ok (.iload 4, 2) := by decide +kernel
theorem dX3_manyWithoutA_17 : decode cX3_manyWithoutA 17 = .ok (.invokevirtual 48, 3) := by decide +kernel
theorem dX3_manyWithoutA_20 : decode cX3_manyWithoutA 20 = .ok (.iload_n 2, 1) := by decide +kernel
theorem dX3_manyWithoutA_21 : decode cX3_manyWithoutA 21 = .ok (.if_icmp .ne 7, 3) := by decide +kernel
theorem dX3_manyWithoutA_24 : decode cX3_manyWithoutA 24 = .ok (.iconst 1, 1) := by decide +kernel
theorem dX3_manyWithoutA_25 : decode cX3_manyWithoutA 25 = .ok (.goto 4, 3) := by decide +kernel
theorem dX3_manyWithoutA_28 : decode cX3_manyWithoutA 28 = .ok (.iconst 0, 1) := by decide +kernel
theorem dX3_manyWithoutA_29 : decode cX3_manyWithoutA 29 = .ok (.iadd, 1) := by decide +kernel
theorem dX3_manyWithoutA_30 : decode cX3_manyWithoutA 30 = .ok (.istore_n 3, 1) := by decide +kernel
theorem dX3_manyWithoutA_31 : decode cX3_manyWithoutA 31 = .ok (.iinc 4 1, 3) := by decide +kernel
theorem dX3_manyWithoutA_34 : decode cX3_manyWithoutA 34 = .ok (.goto (-29), 3) := by decide +kernel
theorem dX3_manyWithoutA_37 : decode cX3_manyWithoutA 37 = .ok (.iload_n 3, 1) := by decide +kernel
theorem dX3_manyWithoutA_38 : decode cX3_manyWithoutA 38 = .ok (.ireturn, 1) := by decide +kernel
set_option maxRecDepth 20000 in
theorem ggX3_manyWithoutB_X3_manyPoints : GoodIn wsX3_manyWithoutB wsX3_manyPoints := goodIn_r _ [5, 6, 7, 8, 4, 9, 10, 11, 12, 13, 14, 15, 16, 17, 18, 19, 20, 21, 22, 23, 24, 25, 26] (by decide +kernel) (by decide +kernel)
set_option maxRecDepth 20000 in
theorem gX3_manyWithoutB_X3_manyPoints : GoodIn wsX3_manyWithoutB (wsV RX3 48 RX3 yX3_manyPoints wsX3_manyPoints) := goodIn_app (goodIn_of _ (by decide +kernel)) ggX3_manyWithoutB_X3_manyPoints
theorem dX3_manyWithoutB_0 : decode cX3_manyWithoutB 0 = .ok (.iconst 0, 1) := by decide +kernel
theorem dX3_manyWithoutB_1 : decode cX3_manyWithoutB 1 = .ok (.istore_n 3, 1) := by decide +kernel
theorem dX3_manyWithoutB_2 : decode cX3_manyWithoutB 2 = .ok (.iconst 1, 1) := by decide +kernel
theorem dX3_manyWithoutB_3 : decode cX3_manyWithoutB 3 = .ok (.istore 4, 2) := by decide +kernel
theorem dX3_manyWithoutB_5 : decode cX3_manyWithoutB 5 = .ok (.iload 4, 2) := by decide +kernel
theorem dX3_manyWithoutB_7 : decode cX3_manyWithoutB 7 = .ok (.iload_n 1, 1) := by decide +kernel
theorem dX3_manyWithoutB_8 : decode cX3_manyWithoutB 8 = .ok (.if_icmp .ge 29, 3) := by decide +kernel
theorem dX3_manyWithoutB_11 : decode cX3_manyWithoutB 11 = .ok (.iload_n 3, 1) := by decide +kernel
theorem dX3_manyWithoutB_12 : decode cX3_manyWithoutB 12 = .ok (.aload_n 0, 1) := by decide +kernel
theorem dX3_manyWithoutB_13 : decode cX3_manyWithoutB 13 = .ok (.iload_n 1, 1) := by decide +kernel
theorem dX3_manyWithoutB_14 : decode cX3_manyWithoutB 14 = .ok (.iload 4, 2) := by decide +kernel
theorem dX3_manyWithoutB_16 : decode cX3_manyWithoutB 16 = .ok (.iconst 0, 1) := by decide +kernel
theorem dX3_manyWithoutB_17 : decode cX3_manyWithoutB 17 = .ok (.invokevirtual 48, 3) := by decide +kernel
theorem dX3_manyWithoutB_20 : decode cX3_manyWithoutB 20 = .ok (.iload_n 2, 1) := by decide +kernel
theorem dX3_manyWithoutB_21 : decode cX3_manyWithoutB 21 = .ok (.if_icmp .ne 7, 3) := by decide +kernel
theorem dX3_manyWithoutB_24 : decode cX3_manyWithoutB 24 = .ok (.iconst 1, 1) := by decide +kernel
theorem dX3_manyWithoutB_25 : decode cX3_manyWithoutB 25 = .ok (.goto 4, 3) := by decide +kernel
theorem dX3_manyWithoutB_28 : decode cX3_manyWithoutB 28 = .ok (.iconst 0, 1) := by decide +kernel
theorem dX3_manyWithoutB_29 : decode cX3_manyWithoutB 29 = .ok (.iadd, 1) := by decide +kernel
theorem dX3_manyWithoutB_30 : decode cX3_manyWithoutB 30 = .ok (.istore_n 3, 1) := by decide +kernel
theorem dX3_manyWithoutB_31 : decode cX3_manyWithoutB 31 = .ok (.iinc 4 1, 3) := by decide +kernel
theorem dX3_manyWithoutB_34 : decode cX3_manyWithoutB 34 = .ok (.goto (-29), 3) := by decide +kernel
theorem dX3_manyWithoutB_37 : decode cX3_manyWithoutB 37 = .ok (.iload_n 3, 1) := by decide +kernel
theorem dX3_manyWithoutB_38 : decode cX3_manyWithoutB 38 = .ok (.ireturn, 1) := by decide +kernel
theorem dX4_isBelow_0 : decode cX4_isBelow 0 = .ok (.iload_n 0, 1) := by decide +kernel
theorem dX4_isBelow_1 : decode cX4_isBelow 1 = .ok (.ifCond .lt 12, 3) := by decide +kernel
theorem dX4_isBelow_4 : decode cX4_isBelow 4 = .ok (.iload_n 0, 1) := by decide +kernel
theorem dX4_isBelow_5 : decode cX4_isBelow 5 = .ok (.iload_n 1, 1) := by decide +kernel
theorem dX4_isBelow_6 : decode cX4_isBelow 6 = .ok (.if_icmp .ge 7, 3) := by decide +kernel
theorem dX4_isBelow_9 : decode cX4_isBelow 9 = .ok (.iconst 1, 1) := by decide +kernel
theorem dX4_isBelow_10 : decode cX4_isBelow 10 = .ok (.goto 4, 3) := by decide +kernel
theorem dX4_isBelow_13 : decode cX4_isBelow 13 = .ok (.iconst 0, 1) := by decide +kernel
theorem dX4_isBelow_14 : decode cX4_isBelow 14 = .ok (.ireturn, 1) := by decide +kernel
set_option maxRecDepth 20000 in
theorem ggX4_isFieldPrime_X4_isPrime : GoodIn wsX4_isFieldPrime wsX4_isPrime := goodIn_r _ [4, 5, 6, 3, 7] (by decide +kernel) (by decide +kernel)
set_option maxRecDepth 20000 in
theorem gX4_isFieldPrime_X4_isPrime : GoodIn wsX4_isFieldPrime (va_wsS RX4 9 yX4_isPrime wsX4_isPrime) := goodIn_app (goodIn_of _ (by decide +kernel)) ggX4_isFieldPrime_X4_isPrime
theorem dX4_isFieldPrime_0 : decode cX4_isFieldPrime 0 = .ok (.iload_n 0, 1) := by decide +kernel
theorem dX4_isFieldPrime_1 : decode cX4_isFieldPrime 1 = .ok (.iconst 5, 1) := by decide +kernel
theorem dX4_isFieldPrime_2 : decode cX4_isFieldPrime 2 = .ok (.if_icmp .lt 21, 3) := by decide +kernel
theorem dX4_isFieldPrime_5 : decode cX4_isFieldPrime 5 = .ok (.iload_n 0, 1) := by decide +kernel
theorem dX4_isFieldPrime_6 : decode cX4_isFieldPrime 6 = .ok (.sipush 10007, 3) := by decide +kernel
theorem dX4_isFieldPrime_9 : decode cX4_isFieldPrime 9 = .ok (.if_icmp .gt 14, 3) := by decide +kernel
theorem dX4_isFieldPrime_12 : decode cX4_isFieldPrime 12 = .ok (.iload_n 0, 1) := by decide +kernel
theorem dX4_isFieldPrime_13 : decode cX4_isFieldPrime 13 = .ok (.invokestatic 9, 3) := by decide +kernel
theorem dX4_isFieldPrime_16 : decode cX4_isFieldPrime 16 = .ok (.ifCond .eq 7, 3) := by decide +kernel
theorem dX4_isFieldPrime_19 : decode cX4_isFieldPrime 19 = .ok (.iconst 1, 1) := by decide +kernel
theorem dX4_isFieldPrime_20 : decode cX4_isFieldPrime 20 = .ok (.goto 4, 3) := by decide +kernel
theorem dX4_isFieldPrime_23 : decode cX4_isFieldPrime 23 = .ok (.iconst 0, 1) := by decide +kernel
theorem dX4_isFieldPrime_24 : decode cX4_isFieldPrime 24 = .ok (.ireturn, 1) := by decide +kernel
set_option maxRecDepth 20000 in
theorem ggX4_isPrime_X4_leastFactor : GoodIn wsX4_isPrime wsX4_leastFactor := goodIn_r _ [4] (by decide +kernel) (by decide +kernel)
set_option maxRecDepth 20000 in
theorem gX4_isPrime_X4_leastFactor : GoodIn wsX4_isPrime (va_wsS RX4 15 yX4_leastFactor wsX4_leastFactor) := goodIn_app (goodIn_of _ (by decide +kernel)) ggX4_isPrime_X4_leastFactor
theorem dX4_isPrime_0 : decode cX4_isPrime 0 = .ok (.iload_n 0, 1) := by decide +kernel
theorem dX4_isPrime_1 : decode cX4_isPrime 1 = .ok (.iconst 2, 1) := by decide +kernel
theorem dX4_isPrime_2 : decode cX4_isPrime 2 = .ok (.if_icmp .lt 15, 3) := by decide +kernel
theorem dX4_isPrime_5 : decode cX4_isPrime 5 = .ok (.iload_n 0, 1) := by decide +kernel
theorem dX4_isPrime_6 : decode cX4_isPrime 6 = .ok (.invokestatic 15, 3) := by decide +kernel
theorem dX4_isPrime_9 : decode cX4_isPrime 9 = .ok (.iload_n 0, 1) := by decide +kernel
theorem dX4_isPrime_10 : decode cX4_isPrime 10 = .ok (.if_icmp .ne 7, 3) := by decide +kernel
theorem dX4_isPrime_13 : decode cX4_isPrime 13 = .ok (.iconst 1, 1) := by decide +kernel
theorem dX4_isPrime_14 : decode cX4_isPrime 14 = .ok (.goto 4, 3) := by decide +kernel
theorem dX4_isPrime_17 : decode cX4_isPrime 17 = .ok (.iconst 0, 1) := by decide +kernel
theorem dX4_isPrime_18 : decode cX4_isPrime 18 = .ok (.ireturn, 1) := by decide +kernel
theorem dX4_leastFactor_0 : decode cX4_leastFactor 0 = .ok (.iconst 2, 1) := by decide +kernel
theorem dX4_leastFactor_1 : decode cX4_leastFactor 1 = .ok (.istore_n 1, 1) := by decide +kernel
theorem dX4_leastFactor_2 : decode cX4_leastFactor 2 = .ok (.iload_n 1, 1) := by decide +kernel
theorem dX4_leastFactor_3 : decode cX4_leastFactor 3 = .ok (.iload_n 0, 1) := by decide +kernel
theorem dX4_leastFactor_4 : decode cX4_leastFactor 4 = .ok (.iload_n 1, 1) := by decide +kernel
theorem dX4_leastFactor_5 : decode cX4_leastFactor 5 = .ok (.idiv, 1) := by decide +kernel
theorem dX4_leastFactor_6 : decode cX4_leastFactor 6 = .ok (.if_icmp .gt 17, 3) := by decide +kernel
theorem dX4_leastFactor_9 : decode cX4_leastFactor 9 = .ok (.iload_n 0, 1) := by decide +kernel
theorem dX4_leastFactor_10 : decode cX4_leastFactor 10 = .ok (.iload_n 1, 1) := by decide +kernel
theorem dX4_leastFactor_11 : decode cX4_leastFactor 11 = .ok (.irem, 1) := by decide +kernel
theorem dX4_leastFactor_12 : decode cX4_leastFactor 12 = .ok (.ifCond .ne 5, 3) := by decide +kernel
theorem dX4_leastFactor_15 : decode cX4_leastFactor 15 = .ok (.iload_n 1, 1) := by decide +kernel
theorem dX4_leastFactor_16 : decode cX4_leastFactor 16 = .ok (.ireturn, 1) := by decide +kernel
theorem dX4_leastFactor_17 : decode cX4_leastFactor 17 = .ok (.iinc 1 1, 3) := by decide +kernel
theorem dX4_leastFactor_20 : decode cX4_leastFactor 20 = .ok (.goto (-18), 3) := by decide +kernel
theorem dX4_leastFactor_23 : decode cX4_leastFactor 23 = .ok (.iload_n 0, 1) := by decide +kernel
theorem dX4_leastFactor_24 : decode cX4_leastFactor 24 = .ok (.ireturn, 1) := by decide +kernel
theorem dX4_cubicMark_0 : decode cX4_cubicMark 0 = .ok (.iconst 4, 1) := by decide +kernel
theorem dX4_cubicMark_1 : decode cX4_cubicMark 1 = .ok (.iload_n 0, 1) := by decide +kernel
theorem dX4_cubicMark_2 : decode cX4_cubicMark 2 = .ok (.iload_n 0, 1) := by decide +kernel
theorem dX4_cubicMark_3 : decode cX4_cubicMark 3 = .ok (.imul, 1) := by decide +kernel
theorem dX4_cubicMark_4 : decode cX4_cubicMark 4 = .ok (.iload_n 2, 1) := by decide +kernel
theorem dX4_cubicMark_5 : decode cX4_cubicMark 5 = .ok (.irem, 1) := by decide +kernel
theorem dX4_cubicMark_6 : decode cX4_cubicMark 6 = .ok (.imul, 1) := by decide +kernel
theorem dX4_cubicMark_7 : decode cX4_cubicMark 7 = .ok (.iload_n 0, 1) := by decide +kernel
theorem dX4_cubicMark_8 : decode cX4_cubicMark 8 = .ok (.imul, 1) := by decide +kernel
theorem dX4_cubicMark_9 : decode cX4_cubicMark 9 = .ok (.iload_n 2, 1) := by decide +kernel
theorem dX4_cubicMark_10 : decode cX4_cubicMark 10 = .ok (.irem, 1) := by decide +kernel
theorem dX4_cubicMark_11 : decode cX4_cubicMark 11 = .ok (.bipush 27, 2) := by decide +kernel
theorem dX4_cubicMark_13 : decode cX4_cubicMark 13 = .ok (.iload_n 1, 1) := by decide +kernel
theorem dX4_cubicMark_14 : decode cX4_cubicMark 14 = .ok (.iload_n 1, 1) := by decide +kernel
theorem dX4_cubicMark_15 : decode cX4_cubicMark 15 = .ok (.imul, 1) := by decide +kernel
theorem dX4_cubicMark_16 : decode cX4_cubicMark 16 = .ok (.iload_n 2, 1) := by decide +kernel
theorem dX4_cubicMark_17 : decode cX4_cubicMark 17 = .ok (.irem, 1) := by decide +kernel
theorem dX4_cubicMark_18 : decode cX4_cubicMark 18 = .ok (.imul, 1) := by decide +kernel
theorem dX4_cubicMark_19 : decode cX4_cubicMark 19 = .ok (.iadd, 1) := by decide +kernel
theorem dX4_cubicMark_20 : decode cX4_cubicMark 20 = .ok (.iload_n 2, 1) := by decide +kernel
theorem dX4_cubicMark_21 : decode cX4_cubicMark 21 = .ok (.irem, 1) := by decide +kernel
theorem dX4_cubicMark_22 : decode cX4_cubicMark 22 = .ok (.ireturn, 1) := by decide +kernel
set_option maxRecDepth 20000 in
theorem ggX5_init_X3_init : GoodIn wsX5_init wsX3_init := goodIn_r _ [13, 14, 2, 3, 15, 16, 17, 18, 19, 20, 21, 22, 23, 24, 25, 26, 27, 28, 29, 30, 31, 32, 33, 34, 35, 36, 37, 38, 45, 46, 42, 43, 44, 47, 48, 49, 50, 51, 52] (by decide +kernel) (by decide +kernel)
set_option maxRecDepth 20000 in
theorem gX5_init_X3_init : GoodIn wsX5_init (wsX3_init) := ggX5_init_X3_init
theorem dX5_init_0 : decode cX5_init 0 = .ok (.aload_n 0, 1) := by decide +kernel
theorem dX5_init_1 : decode cX5_init 1 = .ok (.invokespecial 3, 3) := by decide +kernel
theorem dX5_init_4 : decode cX5_init 4 = .ok (.aload_n 0, 1) := by decide +kernel
theorem dX5_init_5 : decode cX5_init 5 = .ok (.bipush 24, 2) := by decide +kernel
theorem dX5_init_7 : decode cX5_init 7 = .ok (.anewarray 9, 3) := by decide +kernel
theorem dX5_init_10 : decode cX5_init 10 = .ok (.putfield 11, 3) := by decide +kernel
theorem dX5_init_13 : decode cX5_init 13 = .ok (.aload_n 0, 1) := by decide +kernel
theorem dX5_init_14 : decode cX5_init 14 = .ok (.iconst 0, 1) := by decide +kernel
theorem dX5_init_15 : decode cX5_init 15 = .ok (.putfield 15, 3) := by decide +kernel
theorem dX5_init_18 : decode cX5_init 18 = .ok (.aload_n 0, 1) := by decide +kernel
theorem dX5_init_19 : decode cX5_init 19 = .ok (.new 19, 3) := by decide +kernel
theorem dX5_init_22 : decode cX5_init 22 = .ok (.dup, 1) := by decide +kernel
theorem dX5_init_23 : decode cX5_init 23 = .ok (.invokespecial 21, 3) := by decide +kernel
theorem dX5_init_26 : decode cX5_init 26 = .ok (.putfield 22, 3) := by decide +kernel
theorem dX5_init_29 : decode cX5_init 29 = .ok (.return_, 1) := by decide +kernel
set_option maxRecDepth 20000 in
theorem ggX5_curve_X4_isFieldPrime : GoodIn wsX5_curve wsX4_isFieldPrime := goodIn_r _ [7, 8, 9, 6, 10, 11, 12, 13] (by decide +kernel) (by decide +kernel)
set_option maxRecDepth 20000 in
theorem gX5_curve_X4_isFieldPrime : GoodIn wsX5_curve (va_wsS RX5 26 yX4_isFieldPrime wsX4_isFieldPrime) := goodIn_app (goodIn_of _ (by decide +kernel)) ggX5_curve_X4_isFieldPrime
set_option maxRecDepth 20000 in
theorem ggX5_curve_X4_isBelow : GoodIn wsX5_curve wsX4_isBelow := goodIn_r _ [16] (by decide +kernel) (by decide +kernel)
set_option maxRecDepth 20000 in
theorem gX5_curve_X4_isBelow : GoodIn wsX5_curve (va_wsS RX5 32 yX4_isBelow wsX4_isBelow) := goodIn_app (goodIn_of _ (by decide +kernel)) ggX5_curve_X4_isBelow
set_option maxRecDepth 20000 in
theorem ggX5_curve_X4_cubicMark : GoodIn wsX5_curve wsX4_cubicMark := goodIn_r _ [19] (by decide +kernel) (by decide +kernel)
set_option maxRecDepth 20000 in
theorem gX5_curve_X4_cubicMark : GoodIn wsX5_curve (va_wsS RX5 36 yX4_cubicMark wsX4_cubicMark) := goodIn_app (goodIn_of _ (by decide +kernel)) ggX5_curve_X4_cubicMark
set_option maxRecDepth 20000 in
theorem ggX5_curve_X0_init : GoodIn wsX5_curve wsX0_init := goodIn_r _ [22, 23, 24, 25, 26, 27, 28, 29, 30, 38, 39, 40, 41, 42, 43, 44, 45, 46, 47, 48, 49] (by decide +kernel) (by decide +kernel)
set_option maxRecDepth 20000 in
theorem gX5_curve_X0_init : GoodIn wsX5_curve (wsX0_init) := ggX5_curve_X0_init
set_option maxRecDepth 20000 in
theorem ggX5_curve_X5_keep : GoodIn wsX5_curve wsX5_keep := goodIn_r _ [35, 36, 37, 50, 51, 52] (by decide +kernel) (by decide +kernel)
set_option maxRecDepth 20000 in
theorem gX5_curve_X5_keep : GoodIn wsX5_curve (wsV RX5 43 RX5 yX5_keep wsX5_keep) := goodIn_app (goodIn_of _ (by decide +kernel)) ggX5_curve_X5_keep
theorem dX5_curve_0 : decode cX5_curve 0 = .ok (.iload_n 1, 1) := by decide +kernel
theorem dX5_curve_1 : decode cX5_curve 1 = .ok (.invokestatic 26, 3) := by decide +kernel
theorem dX5_curve_4 : decode cX5_curve 4 = .ok (.ifCond .eq 19, 3) := by decide +kernel
theorem dX5_curve_7 : decode cX5_curve 7 = .ok (.iload_n 2, 1) := by decide +kernel
theorem dX5_curve_8 : decode cX5_curve 8 = .ok (.iload_n 1, 1) := by decide +kernel
theorem dX5_curve_9 : decode cX5_curve 9 = .ok (.invokestatic 32, 3) := by decide +kernel
theorem dX5_curve_12 : decode cX5_curve 12 = .ok (.ifCond .eq 11, 3) := by decide +kernel
theorem dX5_curve_15 : decode cX5_curve 15 = .ok (.iload_n 3, 1) := by decide +kernel
theorem dX5_curve_16 : decode cX5_curve 16 = .ok (.iload_n 1, 1) := by decide +kernel
theorem dX5_curve_17 : decode cX5_curve 17 = .ok (.invokestatic 32, 3) := by decide +kernel
theorem dX5_curve_20 : decode cX5_curve 20 = .ok (.ifCond .ne 6, 3) := by decide +kernel
theorem dX5_curve_23 : decode cX5_curve 23 = .ok (.bipush (-2), 2) := by decide +kernel
theorem dX5_curve_25 : decode cX5_curve 25 = .ok (.ireturn, 1) := by decide +kernel
theorem dX5_curve_26 : decode cX5_curve 26 = .ok (.iload_n 2, 1) := by decide +kernel
theorem dX5_curve_27 : decode cX5_curve 27 = .ok (.iload_n 3, 1) := by decide +kernel
theorem dX5_curve_28 : decode cX5_curve 28 = .ok (.iload_n 1, 1) := by decide +kernel
theorem dX5_curve_29 : decode cX5_curve 29 = .ok (.invokestatic 36, 3) := by decide +kernel
theorem dX5_curve_32 : decode cX5_curve 32 = .ok (.ifCond .ne 6, 3) := by decide +kernel
theorem dX5_curve_35 : decode cX5_curve 35 = .ok (.bipush (-3), 2) := by decide +kernel
theorem dX5_curve_37 : decode cX5_curve 37 = .ok (.ireturn, 1) := by decide +kernel
theorem dX5_curve_38 : decode cX5_curve 38 = .ok (.aload_n 0, 1) := by decide +kernel
theorem dX5_curve_39 : decode cX5_curve 39 = .ok (.new 9, 3) := by decide +kernel
theorem dX5_curve_42 : decode cX5_curve 42 = .ok (.dup, 1) := by decide +kernel
theorem dX5_curve_43 : decode cX5_curve 43 = .ok (.iload_n 1, 1) := by decide +kernel
theorem dX5_curve_44 : decode cX5_curve 44 = .ok (.iload_n 2, 1) := by decide +kernel
theorem dX5_curve_45 : decode cX5_curve 45 = .ok (.iload_n 3, 1) := by decide +kernel
theorem dX5_curve_46 : decode cX5_curve 46 = .ok (.invokespecial 40, 3) := by decide +kernel
theorem dX5_curve_49 : decode cX5_curve 49 = .ok (.invokevirtual 43, 3) := by decide +kernel
theorem dX5_curve_52 : decode cX5_curve 52 = .ok (.ireturn, 1) := by decide +kernel
theorem dX5_told_0 : decode cX5_told 0 = .ok (.aload_n 0, 1) := by decide +kernel
theorem dX5_told_1 : decode cX5_told 1 = .ok (.iload_n 1, 1) := by decide +kernel
theorem dX5_told_2 : decode cX5_told 2 = .ok (.invokevirtual 47, 3) := by decide +kernel
theorem dX5_told_5 : decode cX5_told 5 = .ok (.astore_n 3, 1) := by decide +kernel
theorem dX5_told_6 : decode cX5_told 6 = .ok (.aload_n 3, 1) := by decide +kernel
theorem dX5_told_7 : decode cX5_told 7 = .ok (.ifnonnull 6, 3) := by decide +kernel
theorem dX5_told_10 : decode cX5_told 10 = .ok (.bipush (-2), 2) := by decide +kernel
theorem dX5_told_12 : decode cX5_told 12 = .ok (.ireturn, 1) := by decide +kernel
theorem dX5_twist_0 : decode cX5_twist 0 = .ok (.aload_n 0, 1) := by decide +kernel
theorem dX5_twist_1 : decode cX5_twist 1 = .ok (.iload_n 1, 1) := by decide +kernel
theorem dX5_twist_2 : decode cX5_twist 2 = .ok (.invokevirtual 47, 3) := by decide +kernel
theorem dX5_twist_5 : decode cX5_twist 5 = .ok (.astore_n 2, 1) := by decide +kernel
theorem dX5_twist_6 : decode cX5_twist 6 = .ok (.aload_n 2, 1) := by decide +kernel
theorem dX5_twist_7 : decode cX5_twist 7 = .ok (.ifnonnull 8, 3) := by decide +kernel
theorem dX5_twist_10 : decode cX5_twist 10 = .ok (.bipush (-2), 2) := by decide +kernel
theorem dX5_twist_12 : decode cX5_twist 12 = .ok (.goto 11, 3) := by decide +kernel
theorem dX5_twist_23 : decode cX5_twist 23 = .ok (.ireturn, 1) := by decide +kernel
theorem dX5_map_0 : decode cX5_map 0 = .ok (.aload_n 0, 1) := by decide +kernel
theorem dX5_map_1 : decode cX5_map 1 = .ok (.iload_n 1, 1) := by decide +kernel
theorem dX5_map_2 : decode cX5_map 2 = .ok (.invokevirtual 47, 3) := by decide +kernel
theorem dX5_map_5 : decode cX5_map 5 = .ok (.astore_n 3, 1) := by decide +kernel
theorem dX5_map_6 : decode cX5_map 6 = .ok (.aload_n 0, 1) := by decide +kernel
theorem dX5_map_7 : decode cX5_map 7 = .ok (.iload_n 2, 1) := by decide +kernel
theorem dX5_map_8 : decode cX5_map 8 = .ok (.invokevirtual 47, 3) := by decide +kernel
theorem dX5_map_11 : decode cX5_map 11 = .ok (.astore 4, 2) := by decide +kernel
theorem dX5_map_13 : decode cX5_map 13 = .ok (.aload_n 3, 1) := by decide +kernel
theorem dX5_map_14 : decode cX5_map 14 = .ok (.ifnull 8, 3) := by decide +kernel
theorem dX5_map_22 : decode cX5_map 22 = .ok (.bipush (-2), 2) := by decide +kernel
theorem dX5_map_24 : decode cX5_map 24 = .ok (.ireturn, 1) := by decide +kernel
theorem dX5_mapped_0 : decode cX5_mapped 0 = .ok (.aload_n 0, 1) := by decide +kernel
theorem dX5_mapped_1 : decode cX5_mapped 1 = .ok (.iload_n 1, 1) := by decide +kernel
theorem dX5_mapped_2 : decode cX5_mapped 2 = .ok (.invokevirtual 47, 3) := by decide +kernel
theorem dX5_mapped_5 : decode cX5_mapped 5 = .ok (.astore 4, 2) := by decide +kernel
theorem dX5_mapped_7 : decode cX5_mapped 7 = .ok (.aload 4, 2) := by decide +kernel
theorem dX5_mapped_9 : decode cX5_mapped 9 = .ok (.ifnull 28, 3) := by decide +kernel
theorem dX5_mapped_37 : decode cX5_mapped 37 = .ok (.bipush (-2), 2) := by decide +kernel
theorem dX5_mapped_39 : decode cX5_mapped 39 = .ok (.ireturn, 1) := by decide +kernel
theorem dX5_root_0 : decode cX5_root 0 = .ok (.aload_n 0, 1) := by decide +kernel
theorem dX5_root_1 : decode cX5_root 1 = .ok (.iload_n 1, 1) := by decide +kernel
theorem dX5_root_2 : decode cX5_root 2 = .ok (.invokevirtual 47, 3) := by decide +kernel
theorem dX5_root_5 : decode cX5_root 5 = .ok (.astore_n 3, 1) := by decide +kernel
theorem dX5_root_6 : decode cX5_root 6 = .ok (.aload_n 3, 1) := by decide +kernel
theorem dX5_root_7 : decode cX5_root 7 = .ok (.ifnonnull 8, 3) := by decide +kernel
theorem dX5_root_10 : decode cX5_root 10 = .ok (.bipush (-2), 2) := by decide +kernel
theorem dX5_root_12 : decode cX5_root 12 = .ok (.goto 22, 3) := by decide +kernel
theorem dX5_root_34 : decode cX5_root 34 = .ok (.ireturn, 1) := by decide +kernel
theorem dX5_inverse_0 : decode cX5_inverse 0 = .ok (.aload_n 0, 1) := by decide +kernel
theorem dX5_inverse_1 : decode cX5_inverse 1 = .ok (.iload_n 1, 1) := by decide +kernel
theorem dX5_inverse_2 : decode cX5_inverse 2 = .ok (.invokevirtual 47, 3) := by decide +kernel
theorem dX5_inverse_5 : decode cX5_inverse 5 = .ok (.astore_n 3, 1) := by decide +kernel
theorem dX5_inverse_6 : decode cX5_inverse 6 = .ok (.aload_n 3, 1) := by decide +kernel
theorem dX5_inverse_7 : decode cX5_inverse 7 = .ok (.ifnonnull 6, 3) := by decide +kernel
theorem dX5_inverse_10 : decode cX5_inverse 10 = .ok (.bipush (-2), 2) := by decide +kernel
theorem dX5_inverse_12 : decode cX5_inverse 12 = .ok (.ireturn, 1) := by decide +kernel
theorem dX5_power_0 : decode cX5_power 0 = .ok (.aload_n 0, 1) := by decide +kernel
theorem dX5_power_1 : decode cX5_power 1 = .ok (.iload_n 1, 1) := by decide +kernel
theorem dX5_power_2 : decode cX5_power 2 = .ok (.invokevirtual 47, 3) := by decide +kernel
theorem dX5_power_5 : decode cX5_power 5 = .ok (.astore 5, 2) := by decide +kernel
theorem dX5_power_7 : decode cX5_power 7 = .ok (.aload 5, 2) := by decide +kernel
theorem dX5_power_9 : decode cX5_power 9 = .ok (.ifnull 9, 3) := by decide +kernel
theorem dX5_power_18 : decode cX5_power 18 = .ok (.bipush (-2), 2) := by decide +kernel
theorem dX5_power_20 : decode cX5_power 20 = .ok (.ireturn, 1) := by decide +kernel
theorem dX5_generator_0 : decode cX5_generator 0 = .ok (.aload_n 0, 1) := by decide +kernel
theorem dX5_generator_1 : decode cX5_generator 1 = .ok (.iload_n 1, 1) := by decide +kernel
theorem dX5_generator_2 : decode cX5_generator 2 = .ok (.invokevirtual 47, 3) := by decide +kernel
theorem dX5_generator_5 : decode cX5_generator 5 = .ok (.astore_n 2, 1) := by decide +kernel
theorem dX5_generator_6 : decode cX5_generator 6 = .ok (.aload_n 2, 1) := by decide +kernel
theorem dX5_generator_7 : decode cX5_generator 7 = .ok (.ifnonnull 8, 3) := by decide +kernel
theorem dX5_generator_10 : decode cX5_generator 10 = .ok (.bipush (-2), 2) := by decide +kernel
theorem dX5_generator_12 : decode cX5_generator 12 = .ok (.goto 10, 3) := by decide +kernel
theorem dX5_generator_22 : decode cX5_generator 22 = .ok (.ireturn, 1) := by decide +kernel
theorem dX5_point_0 : decode cX5_point 0 = .ok (.aload_n 0, 1) := by decide +kernel
theorem dX5_point_1 : decode cX5_point 1 = .ok (.iload_n 1, 1) := by decide +kernel
theorem dX5_point_2 : decode cX5_point 2 = .ok (.invokevirtual 47, 3) := by decide +kernel
theorem dX5_point_5 : decode cX5_point 5 = .ok (.astore 4, 2) := by decide +kernel
theorem dX5_point_7 : decode cX5_point 7 = .ok (.aload 4, 2) := by decide +kernel
theorem dX5_point_9 : decode cX5_point 9 = .ok (.ifnull 27, 3) := by decide +kernel
theorem dX5_point_36 : decode cX5_point 36 = .ok (.bipush (-2), 2) := by decide +kernel
theorem dX5_point_38 : decode cX5_point 38 = .ok (.ireturn, 1) := by decide +kernel
theorem dX5_lift_0 : decode cX5_lift 0 = .ok (.aload_n 0, 1) := by decide +kernel
theorem dX5_lift_1 : decode cX5_lift 1 = .ok (.iload_n 1, 1) := by decide +kernel
theorem dX5_lift_2 : decode cX5_lift 2 = .ok (.invokevirtual 47, 3) := by decide +kernel
theorem dX5_lift_5 : decode cX5_lift 5 = .ok (.astore 4, 2) := by decide +kernel
theorem dX5_lift_7 : decode cX5_lift 7 = .ok (.aload 4, 2) := by decide +kernel
theorem dX5_lift_9 : decode cX5_lift 9 = .ok (.ifnull 15, 3) := by decide +kernel
theorem dX5_lift_24 : decode cX5_lift 24 = .ok (.bipush (-2), 2) := by decide +kernel
theorem dX5_lift_26 : decode cX5_lift 26 = .ok (.ireturn, 1) := by decide +kernel
theorem dX5_near_0 : decode cX5_near 0 = .ok (.aload_n 0, 1) := by decide +kernel
theorem dX5_near_1 : decode cX5_near 1 = .ok (.iload_n 1, 1) := by decide +kernel
theorem dX5_near_2 : decode cX5_near 2 = .ok (.invokevirtual 47, 3) := by decide +kernel
theorem dX5_near_5 : decode cX5_near 5 = .ok (.astore_n 3, 1) := by decide +kernel
theorem dX5_near_6 : decode cX5_near 6 = .ok (.aload_n 3, 1) := by decide +kernel
theorem dX5_near_7 : decode cX5_near 7 = .ok (.ifnonnull 6, 3) := by decide +kernel
theorem dX5_near_10 : decode cX5_near 10 = .ok (.bipush (-2), 2) := by decide +kernel
theorem dX5_near_12 : decode cX5_near 12 = .ok (.ireturn, 1) := by decide +kernel
theorem dX5_nth_0 : decode cX5_nth 0 = .ok (.aload_n 0, 1) := by decide +kernel
theorem dX5_nth_1 : decode cX5_nth 1 = .ok (.iload_n 1, 1) := by decide +kernel
theorem dX5_nth_2 : decode cX5_nth 2 = .ok (.invokevirtual 47, 3) := by decide +kernel
theorem dX5_nth_5 : decode cX5_nth 5 = .ok (.astore_n 3, 1) := by decide +kernel
theorem dX5_nth_6 : decode cX5_nth 6 = .ok (.aload_n 3, 1) := by decide +kernel
theorem dX5_nth_7 : decode cX5_nth 7 = .ok (.ifnonnull 6, 3) := by decide +kernel
theorem dX5_nth_10 : decode cX5_nth 10 = .ok (.bipush (-2), 2) := by decide +kernel
theorem dX5_nth_12 : decode cX5_nth 12 = .ok (.ireturn, 1) := by decide +kernel
theorem dX5_rank_0 : decode cX5_rank 0 = .ok (.aload_n 0, 1) := by decide +kernel
theorem dX5_rank_1 : decode cX5_rank 1 = .ok (.iload_n 1, 1) := by decide +kernel
theorem dX5_rank_2 : decode cX5_rank 2 = .ok (.invokevirtual 47, 3) := by decide +kernel
theorem dX5_rank_5 : decode cX5_rank 5 = .ok (.astore_n 3, 1) := by decide +kernel
theorem dX5_rank_6 : decode cX5_rank 6 = .ok (.aload_n 3, 1) := by decide +kernel
theorem dX5_rank_7 : decode cX5_rank 7 = .ok (.ifnull 11, 3) := by decide +kernel
theorem dX5_rank_18 : decode cX5_rank 18 = .ok (.bipush (-2), 2) := by decide +kernel
theorem dX5_rank_20 : decode cX5_rank 20 = .ok (.ireturn, 1) := by decide +kernel
theorem dX5_add_0 : decode cX5_add 0 = .ok (.aload_n 0, 1) := by decide +kernel
theorem dX5_add_1 : decode cX5_add 1 = .ok (.iload_n 1, 1) := by decide +kernel
theorem dX5_add_2 : decode cX5_add 2 = .ok (.invokevirtual 47, 3) := by decide +kernel
theorem dX5_add_5 : decode cX5_add 5 = .ok (.astore 4, 2) := by decide +kernel
theorem dX5_add_7 : decode cX5_add 7 = .ok (.aload 4, 2) := by decide +kernel
theorem dX5_add_9 : decode cX5_add 9 = .ok (.ifnull 21, 3) := by decide +kernel
theorem dX5_add_30 : decode cX5_add 30 = .ok (.bipush (-2), 2) := by decide +kernel
theorem dX5_add_32 : decode cX5_add 32 = .ok (.ireturn, 1) := by decide +kernel
theorem dX5_negative_0 : decode cX5_negative 0 = .ok (.aload_n 0, 1) := by decide +kernel
theorem dX5_negative_1 : decode cX5_negative 1 = .ok (.iload_n 1, 1) := by decide +kernel
theorem dX5_negative_2 : decode cX5_negative 2 = .ok (.invokevirtual 47, 3) := by decide +kernel
theorem dX5_negative_5 : decode cX5_negative 5 = .ok (.astore_n 3, 1) := by decide +kernel
theorem dX5_negative_6 : decode cX5_negative 6 = .ok (.aload_n 3, 1) := by decide +kernel
theorem dX5_negative_7 : decode cX5_negative 7 = .ok (.ifnull 11, 3) := by decide +kernel
theorem dX5_negative_18 : decode cX5_negative 18 = .ok (.bipush (-2), 2) := by decide +kernel
theorem dX5_negative_20 : decode cX5_negative 20 = .ok (.goto 8, 3) := by decide +kernel
theorem dX5_negative_28 : decode cX5_negative 28 = .ok (.ireturn, 1) := by decide +kernel
theorem dX5_times_0 : decode cX5_times 0 = .ok (.aload_n 0, 1) := by decide +kernel
theorem dX5_times_1 : decode cX5_times 1 = .ok (.iload_n 1, 1) := by decide +kernel
theorem dX5_times_2 : decode cX5_times 2 = .ok (.invokevirtual 47, 3) := by decide +kernel
theorem dX5_times_5 : decode cX5_times 5 = .ok (.astore 5, 2) := by decide +kernel
theorem dX5_times_7 : decode cX5_times 7 = .ok (.aload 5, 2) := by decide +kernel
theorem dX5_times_9 : decode cX5_times 9 = .ok (.ifnull 12, 3) := by decide +kernel
theorem dX5_times_21 : decode cX5_times 21 = .ok (.bipush (-2), 2) := by decide +kernel
theorem dX5_times_23 : decode cX5_times 23 = .ok (.goto 10, 3) := by decide +kernel
theorem dX5_times_33 : decode cX5_times 33 = .ok (.ireturn, 1) := by decide +kernel
theorem dX5_alone_0 : decode cX5_alone 0 = .ok (.aload_n 0, 1) := by decide +kernel
theorem dX5_alone_1 : decode cX5_alone 1 = .ok (.iload_n 1, 1) := by decide +kernel
theorem dX5_alone_2 : decode cX5_alone 2 = .ok (.invokevirtual 47, 3) := by decide +kernel
theorem dX5_alone_5 : decode cX5_alone 5 = .ok (.astore 5, 2) := by decide +kernel
theorem dX5_alone_7 : decode cX5_alone 7 = .ok (.aload 5, 2) := by decide +kernel
theorem dX5_alone_9 : decode cX5_alone 9 = .ok (.ifnull 15, 3) := by decide +kernel
theorem dX5_alone_24 : decode cX5_alone 24 = .ok (.bipush (-2), 2) := by decide +kernel
theorem dX5_alone_26 : decode cX5_alone 26 = .ok (.ireturn, 1) := by decide +kernel
theorem dX5_count_0 : decode cX5_count 0 = .ok (.aload_n 0, 1) := by decide +kernel
theorem dX5_count_1 : decode cX5_count 1 = .ok (.iload_n 1, 1) := by decide +kernel
theorem dX5_count_2 : decode cX5_count 2 = .ok (.invokevirtual 47, 3) := by decide +kernel
theorem dX5_count_5 : decode cX5_count 5 = .ok (.astore_n 2, 1) := by decide +kernel
theorem dX5_count_6 : decode cX5_count 6 = .ok (.aload_n 2, 1) := by decide +kernel
theorem dX5_count_7 : decode cX5_count 7 = .ok (.ifnonnull 8, 3) := by decide +kernel
theorem dX5_count_10 : decode cX5_count 10 = .ok (.bipush (-2), 2) := by decide +kernel
theorem dX5_count_12 : decode cX5_count 12 = .ok (.goto 11, 3) := by decide +kernel
theorem dX5_count_23 : decode cX5_count 23 = .ok (.ireturn, 1) := by decide +kernel
theorem dX5_countOver_0 : decode cX5_countOver 0 = .ok (.aload_n 0, 1) := by decide +kernel
theorem dX5_countOver_1 : decode cX5_countOver 1 = .ok (.iload_n 1, 1) := by decide +kernel
theorem dX5_countOver_2 : decode cX5_countOver 2 = .ok (.invokevirtual 47, 3) := by decide +kernel
theorem dX5_countOver_5 : decode cX5_countOver 5 = .ok (.astore_n 3, 1) := by decide +kernel
theorem dX5_countOver_6 : decode cX5_countOver 6 = .ok (.aload_n 3, 1) := by decide +kernel
theorem dX5_countOver_7 : decode cX5_countOver 7 = .ok (.ifnull 13, 3) := by decide +kernel
theorem dX5_countOver_20 : decode cX5_countOver 20 = .ok (.ldc2_w 135, 3) := by decide +kernel
theorem dX5_countOver_23 : decode cX5_countOver 23 = .ok (.lreturn, 1) := by decide +kernel
theorem dX5_bound_0 : decode cX5_bound 0 = .ok (.aload_n 0, 1) := by decide +kernel
theorem dX5_bound_1 : decode cX5_bound 1 = .ok (.iload_n 1, 1) := by decide +kernel
theorem dX5_bound_2 : decode cX5_bound 2 = .ok (.invokevirtual 47, 3) := by decide +kernel
theorem dX5_bound_5 : decode cX5_bound 5 = .ok (.astore_n 3, 1) := by decide +kernel
theorem dX5_bound_6 : decode cX5_bound 6 = .ok (.aload_n 3, 1) := by decide +kernel
theorem dX5_bound_7 : decode cX5_bound 7 = .ok (.ifnull 12, 3) := by decide +kernel
theorem dX5_bound_19 : decode cX5_bound 19 = .ok (.bipush (-2), 2) := by decide +kernel
theorem dX5_bound_21 : decode cX5_bound 21 = .ok (.ireturn, 1) := by decide +kernel
theorem dX5_proof_0 : decode cX5_proof 0 = .ok (.aload_n 0, 1) := by decide +kernel
theorem dX5_proof_1 : decode cX5_proof 1 = .ok (.iload_n 1, 1) := by decide +kernel
theorem dX5_proof_2 : decode cX5_proof 2 = .ok (.invokevirtual 47, 3) := by decide +kernel
theorem dX5_proof_5 : decode cX5_proof 5 = .ok (.astore_n 3, 1) := by decide +kernel
theorem dX5_proof_6 : decode cX5_proof 6 = .ok (.aload_n 3, 1) := by decide +kernel
theorem dX5_proof_7 : decode cX5_proof 7 = .ok (.ifnull 12, 3) := by decide +kernel
theorem dX5_proof_19 : decode cX5_proof 19 = .ok (.bipush (-2), 2) := by decide +kernel
theorem dX5_proof_21 : decode cX5_proof 21 = .ok (.ireturn, 1) := by decide +kernel
theorem dX5_supersingular_0 : decode cX5_supersingular 0 = .ok (.aload_n 0, 1) := by decide +kernel
theorem dX5_supersingular_1 : decode cX5_supersingular 1 = .ok (.iload_n 1, 1) := by decide +kernel
theorem dX5_supersingular_2 : decode cX5_supersingular 2 = .ok (.invokevirtual 47, 3) := by decide +kernel
theorem dX5_supersingular_5 : decode cX5_supersingular 5 = .ok (.astore_n 2, 1) := by decide +kernel
theorem dX5_supersingular_6 : decode cX5_supersingular 6 = .ok (.aload_n 2, 1) := by decide +kernel
theorem dX5_supersingular_7 : decode cX5_supersingular 7 = .ok (.ifnonnull 6, 3) := by decide +kernel
theorem dX5_supersingular_10 : decode cX5_supersingular 10 = .ok (.bipush (-2), 2) := by decide +kernel
theorem dX5_supersingular_12 : decode cX5_supersingular 12 = .ok (.ireturn, 1) := by decide +kernel
theorem dX5_order_0 : decode cX5_order 0 = .ok (.aload_n 0, 1) := by decide +kernel
theorem dX5_order_1 : decode cX5_order 1 = .ok (.iload_n 1, 1) := by decide +kernel
theorem dX5_order_2 : decode cX5_order 2 = .ok (.invokevirtual 47, 3) := by decide +kernel
theorem dX5_order_5 : decode cX5_order 5 = .ok (.astore_n 3, 1) := by decide +kernel
theorem dX5_order_6 : decode cX5_order 6 = .ok (.aload_n 3, 1) := by decide +kernel
theorem dX5_order_7 : decode cX5_order 7 = .ok (.ifnull 11, 3) := by decide +kernel
theorem dX5_order_18 : decode cX5_order 18 = .ok (.bipush (-2), 2) := by decide +kernel
theorem dX5_order_20 : decode cX5_order 20 = .ok (.ireturn, 1) := by decide +kernel
theorem dX5_ofOrder_0 : decode cX5_ofOrder 0 = .ok (.aload_n 0, 1) := by decide +kernel
theorem dX5_ofOrder_1 : decode cX5_ofOrder 1 = .ok (.iload_n 1, 1) := by decide +kernel
theorem dX5_ofOrder_2 : decode cX5_ofOrder 2 = .ok (.invokevirtual 47, 3) := by decide +kernel
theorem dX5_ofOrder_5 : decode cX5_ofOrder 5 = .ok (.astore_n 3, 1) := by decide +kernel
theorem dX5_ofOrder_6 : decode cX5_ofOrder 6 = .ok (.aload_n 3, 1) := by decide +kernel
theorem dX5_ofOrder_7 : decode cX5_ofOrder 7 = .ok (.ifnull 8, 3) := by decide +kernel
theorem dX5_ofOrder_15 : decode cX5_ofOrder 15 = .ok (.bipush (-2), 2) := by decide +kernel
theorem dX5_ofOrder_17 : decode cX5_ofOrder 17 = .ok (.ireturn, 1) := by decide +kernel
theorem dX5_torsion_0 : decode cX5_torsion 0 = .ok (.aload_n 0, 1) := by decide +kernel
theorem dX5_torsion_1 : decode cX5_torsion 1 = .ok (.iload_n 1, 1) := by decide +kernel
theorem dX5_torsion_2 : decode cX5_torsion 2 = .ok (.invokevirtual 47, 3) := by decide +kernel
theorem dX5_torsion_5 : decode cX5_torsion 5 = .ok (.astore_n 3, 1) := by decide +kernel
theorem dX5_torsion_6 : decode cX5_torsion 6 = .ok (.aload_n 3, 1) := by decide +kernel
theorem dX5_torsion_7 : decode cX5_torsion 7 = .ok (.ifnull 8, 3) := by decide +kernel
theorem dX5_torsion_15 : decode cX5_torsion 15 = .ok (.bipush (-2), 2) := by decide +kernel
theorem dX5_torsion_17 : decode cX5_torsion 17 = .ok (.ireturn, 1) := by decide +kernel
theorem dX5_made_0 : decode cX5_made 0 = .ok (.aload_n 0, 1) := by decide +kernel
theorem dX5_made_1 : decode cX5_made 1 = .ok (.iload_n 1, 1) := by decide +kernel
theorem dX5_made_2 : decode cX5_made 2 = .ok (.invokevirtual 47, 3) := by decide +kernel
theorem dX5_made_5 : decode cX5_made 5 = .ok (.astore_n 3, 1) := by decide +kernel
theorem dX5_made_6 : decode cX5_made 6 = .ok (.aload_n 3, 1) := by decide +kernel
theorem dX5_made_7 : decode cX5_made 7 = .ok (.ifnull 12, 3) := by decide +kernel
theorem dX5_made_19 : decode cX5_made 19 = .ok (.bipush (-2), 2) := by decide +kernel
theorem dX5_made_21 : decode cX5_made 21 = .ok (.ireturn, 1) := by decide +kernel
theorem dX5_halves_0 : decode cX5_halves 0 = .ok (.aload_n 0, 1) := by decide +kernel
theorem dX5_halves_1 : decode cX5_halves 1 = .ok (.iload_n 1, 1) := by decide +kernel
theorem dX5_halves_2 : decode cX5_halves 2 = .ok (.invokevirtual 47, 3) := by decide +kernel
theorem dX5_halves_5 : decode cX5_halves 5 = .ok (.astore_n 3, 1) := by decide +kernel
theorem dX5_halves_6 : decode cX5_halves 6 = .ok (.aload_n 3, 1) := by decide +kernel
theorem dX5_halves_7 : decode cX5_halves 7 = .ok (.ifnull 11, 3) := by decide +kernel
theorem dX5_halves_18 : decode cX5_halves 18 = .ok (.bipush (-2), 2) := by decide +kernel
theorem dX5_halves_20 : decode cX5_halves 20 = .ok (.goto 12, 3) := by decide +kernel
theorem dX5_halves_32 : decode cX5_halves 32 = .ok (.ireturn, 1) := by decide +kernel
theorem dX5_half_0 : decode cX5_half 0 = .ok (.aload_n 0, 1) := by decide +kernel
theorem dX5_half_1 : decode cX5_half 1 = .ok (.iload_n 1, 1) := by decide +kernel
theorem dX5_half_2 : decode cX5_half 2 = .ok (.invokevirtual 47, 3) := by decide +kernel
theorem dX5_half_5 : decode cX5_half 5 = .ok (.astore 4, 2) := by decide +kernel
theorem dX5_half_7 : decode cX5_half 7 = .ok (.aload 4, 2) := by decide +kernel
theorem dX5_half_9 : decode cX5_half 9 = .ok (.ifnull 12, 3) := by decide +kernel
theorem dX5_half_21 : decode cX5_half 21 = .ok (.bipush (-2), 2) := by decide +kernel
theorem dX5_half_23 : decode cX5_half 23 = .ok (.ireturn, 1) := by decide +kernel
theorem dX5_log_0 : decode cX5_log 0 = .ok (.aload_n 0, 1) := by decide +kernel
theorem dX5_log_1 : decode cX5_log 1 = .ok (.iload_n 1, 1) := by decide +kernel
theorem dX5_log_2 : decode cX5_log 2 = .ok (.invokevirtual 47, 3) := by decide +kernel
theorem dX5_log_5 : decode cX5_log 5 = .ok (.astore 4, 2) := by decide +kernel
theorem dX5_log_7 : decode cX5_log 7 = .ok (.aload 4, 2) := by decide +kernel
theorem dX5_log_9 : decode cX5_log 9 = .ok (.ifnull 21, 3) := by decide +kernel
theorem dX5_log_30 : decode cX5_log 30 = .ok (.bipush (-2), 2) := by decide +kernel
theorem dX5_log_32 : decode cX5_log 32 = .ok (.ireturn, 1) := by decide +kernel
theorem dX5_embedding_0 : decode cX5_embedding 0 = .ok (.aload_n 0, 1) := by decide +kernel
theorem dX5_embedding_1 : decode cX5_embedding 1 = .ok (.iload_n 1, 1) := by decide +kernel
theorem dX5_embedding_2 : decode cX5_embedding 2 = .ok (.invokevirtual 47, 3) := by decide +kernel
theorem dX5_embedding_5 : decode cX5_embedding 5 = .ok (.astore_n 3, 1) := by decide +kernel
theorem dX5_embedding_6 : decode cX5_embedding 6 = .ok (.aload_n 3, 1) := by decide +kernel
theorem dX5_embedding_7 : decode cX5_embedding 7 = .ok (.ifnull 15, 3) := by decide +kernel
theorem dX5_embedding_22 : decode cX5_embedding 22 = .ok (.bipush (-2), 2) := by decide +kernel
theorem dX5_embedding_24 : decode cX5_embedding 24 = .ok (.ireturn, 1) := by decide +kernel
theorem dX5_quotient_0 : decode cX5_quotient 0 = .ok (.aload_n 0, 1) := by decide +kernel
theorem dX5_quotient_1 : decode cX5_quotient 1 = .ok (.iload_n 1, 1) := by decide +kernel
theorem dX5_quotient_2 : decode cX5_quotient 2 = .ok (.invokevirtual 47, 3) := by decide +kernel
theorem dX5_quotient_5 : decode cX5_quotient 5 = .ok (.astore_n 3, 1) := by decide +kernel
theorem dX5_quotient_6 : decode cX5_quotient 6 = .ok (.aload_n 3, 1) := by decide +kernel
theorem dX5_quotient_7 : decode cX5_quotient 7 = .ok (.ifnull 11, 3) := by decide +kernel
theorem dX5_quotient_18 : decode cX5_quotient 18 = .ok (.bipush (-2), 2) := by decide +kernel
theorem dX5_quotient_20 : decode cX5_quotient 20 = .ok (.ireturn, 1) := by decide +kernel
theorem dX5_image_0 : decode cX5_image 0 = .ok (.aload_n 0, 1) := by decide +kernel
theorem dX5_image_1 : decode cX5_image 1 = .ok (.iload_n 1, 1) := by decide +kernel
theorem dX5_image_2 : decode cX5_image 2 = .ok (.invokevirtual 193, 3) := by decide +kernel
theorem dX5_image_5 : decode cX5_image 5 = .ok (.astore_n 3, 1) := by decide +kernel
theorem dX5_image_6 : decode cX5_image 6 = .ok (.aload_n 3, 1) := by decide +kernel
theorem dX5_image_7 : decode cX5_image 7 = .ok (.ifnonnull 7, 3) := by decide +kernel
theorem dX5_image_10 : decode cX5_image 10 = .ok (.aconst_null, 1) := by decide +kernel
theorem dX5_image_11 : decode cX5_image 11 = .ok (.goto 11, 3) := by decide +kernel
theorem dX5_image_22 : decode cX5_image 22 = .ok (.astore 4, 2) := by decide +kernel
theorem dX5_image_24 : decode cX5_image 24 = .ok (.aload 4, 2) := by decide +kernel
theorem dX5_image_26 : decode cX5_image 26 = .ok (.ifnull 12, 3) := by decide +kernel
theorem dX5_image_38 : decode cX5_image 38 = .ok (.bipush (-2), 2) := by decide +kernel
theorem dX5_image_40 : decode cX5_image 40 = .ok (.ireturn, 1) := by decide +kernel
theorem dX5_kernel_0 : decode cX5_kernel 0 = .ok (.aload_n 0, 1) := by decide +kernel
theorem dX5_kernel_1 : decode cX5_kernel 1 = .ok (.iload_n 1, 1) := by decide +kernel
theorem dX5_kernel_2 : decode cX5_kernel 2 = .ok (.invokevirtual 193, 3) := by decide +kernel
theorem dX5_kernel_5 : decode cX5_kernel 5 = .ok (.astore_n 3, 1) := by decide +kernel
theorem dX5_kernel_6 : decode cX5_kernel 6 = .ok (.aload_n 3, 1) := by decide +kernel
theorem dX5_kernel_7 : decode cX5_kernel 7 = .ok (.ifnonnull 6, 3) := by decide +kernel
theorem dX5_kernel_10 : decode cX5_kernel 10 = .ok (.bipush (-2), 2) := by decide +kernel
theorem dX5_kernel_12 : decode cX5_kernel 12 = .ok (.ireturn, 1) := by decide +kernel
theorem dX5_sign_0 : decode cX5_sign 0 = .ok (.aload_n 0, 1) := by decide +kernel
theorem dX5_sign_1 : decode cX5_sign 1 = .ok (.iload_n 1, 1) := by decide +kernel
theorem dX5_sign_2 : decode cX5_sign 2 = .ok (.invokevirtual 47, 3) := by decide +kernel
theorem dX5_sign_5 : decode cX5_sign 5 = .ok (.astore 7, 2) := by decide +kernel
theorem dX5_sign_7 : decode cX5_sign 7 = .ok (.aload_n 0, 1) := by decide +kernel
theorem dX5_sign_8 : decode cX5_sign 8 = .ok (.aload 7, 2) := by decide +kernel
theorem dX5_sign_10 : decode cX5_sign 10 = .ok (.iload_n 2, 1) := by decide +kernel
theorem dX5_sign_11 : decode cX5_sign 11 = .ok (.invokevirtual 208, 3) := by decide +kernel
theorem dX5_sign_14 : decode cX5_sign 14 = .ok (.istore 8, 2) := by decide +kernel
theorem dX5_sign_16 : decode cX5_sign 16 = .ok (.iload 8, 2) := by decide +kernel
theorem dX5_sign_18 : decode cX5_sign 18 = .ok (.ifCond .eq 43, 3) := by decide +kernel
theorem dX5_sign_61 : decode cX5_sign 61 = .ok (.bipush (-2), 2) := by decide +kernel
theorem dX5_sign_63 : decode cX5_sign 63 = .ok (.ireturn, 1) := by decide +kernel
theorem dX5_good_0 : decode cX5_good 0 = .ok (.aload_n 0, 1) := by decide +kernel
theorem dX5_good_1 : decode cX5_good 1 = .ok (.iload_n 1, 1) := by decide +kernel
theorem dX5_good_2 : decode cX5_good 2 = .ok (.invokevirtual 47, 3) := by decide +kernel
theorem dX5_good_5 : decode cX5_good 5 = .ok (.astore 7, 2) := by decide +kernel
theorem dX5_good_7 : decode cX5_good 7 = .ok (.aload_n 0, 1) := by decide +kernel
theorem dX5_good_8 : decode cX5_good 8 = .ok (.aload 7, 2) := by decide +kernel
theorem dX5_good_10 : decode cX5_good 10 = .ok (.iload_n 2, 1) := by decide +kernel
theorem dX5_good_11 : decode cX5_good 11 = .ok (.invokevirtual 208, 3) := by decide +kernel
theorem dX5_good_14 : decode cX5_good 14 = .ok (.istore 8, 2) := by decide +kernel
theorem dX5_good_16 : decode cX5_good 16 = .ok (.iload 8, 2) := by decide +kernel
theorem dX5_good_18 : decode cX5_good 18 = .ok (.ifCond .eq 17, 3) := by decide +kernel
theorem dX5_good_35 : decode cX5_good 35 = .ok (.bipush (-2), 2) := by decide +kernel
theorem dX5_good_37 : decode cX5_good 37 = .ok (.ireturn, 1) := by decide +kernel
set_option maxRecDepth 20000 in
theorem ggX5_census_X4_isFieldPrime : GoodIn wsX5_census wsX4_isFieldPrime := goodIn_r _ [5, 6, 7, 4, 8, 9, 10, 11] (by decide +kernel) (by decide +kernel)
set_option maxRecDepth 20000 in
theorem gX5_census_X4_isFieldPrime : GoodIn wsX5_census (va_wsS RX5 26 yX4_isFieldPrime wsX4_isFieldPrime) := goodIn_app (goodIn_of _ (by decide +kernel)) ggX5_census_X4_isFieldPrime
set_option maxRecDepth 20000 in
theorem ggX5_census_X3_pairsWith : GoodIn wsX5_census wsX3_pairsWith := goodIn_r _ [16, 17, 18, 19, 15, 20, 21, 22, 23, 24, 25, 26, 27, 28, 29, 30, 31, 32, 33, 34, 35, 36, 37, 38, 39, 40, 41, 42, 43, 44, 48, 49, 50, 51, 52] (by decide +kernel) (by decide +kernel)
set_option maxRecDepth 20000 in
theorem gX5_census_X3_pairsWith : GoodIn wsX5_census (wsV RX5 211 RX3 yX3_pairsWith wsX3_pairsWith) := goodIn_app (goodIn_of _ (by decide +kernel)) ggX5_census_X3_pairsWith
theorem dX5_census_0 : decode cX5_census 0 = .ok (.iload_n 1, 1) := by decide +kernel
theorem dX5_census_1 : decode cX5_census 1 = .ok (.bipush 61, 2) := by decide +kernel
theorem dX5_census_3 : decode cX5_census 3 = .ok (.if_icmp .gt 10, 3) := by decide +kernel
theorem dX5_census_6 : decode cX5_census 6 = .ok (.iload_n 1, 1) := by decide +kernel
theorem dX5_census_7 : decode cX5_census 7 = .ok (.invokestatic 26, 3) := by decide +kernel
theorem dX5_census_10 : decode cX5_census 10 = .ok (.ifCond .ne 8, 3) := by decide +kernel
theorem dX5_census_13 : decode cX5_census 13 = .ok (.bipush (-2), 2) := by decide +kernel
theorem dX5_census_15 : decode cX5_census 15 = .ok (.goto 12, 3) := by decide +kernel
theorem dX5_census_18 : decode cX5_census 18 = .ok (.aload_n 0, 1) := by decide +kernel
theorem dX5_census_19 : decode cX5_census 19 = .ok (.getfield 22, 3) := by decide +kernel
theorem dX5_census_22 : decode cX5_census 22 = .ok (.iload_n 1, 1) := by decide +kernel
theorem dX5_census_23 : decode cX5_census 23 = .ok (.iload_n 2, 1) := by decide +kernel
theorem dX5_census_24 : decode cX5_census 24 = .ok (.invokevirtual 211, 3) := by decide +kernel
theorem dX5_census_27 : decode cX5_census 27 = .ok (.ireturn, 1) := by decide +kernel
set_option maxRecDepth 20000 in
theorem ggX5_kinds_X4_isFieldPrime : GoodIn wsX5_kinds wsX4_isFieldPrime := goodIn_r _ [5, 6, 7, 4, 8, 9, 10, 11] (by decide +kernel) (by decide +kernel)
set_option maxRecDepth 20000 in
theorem gX5_kinds_X4_isFieldPrime : GoodIn wsX5_kinds (va_wsS RX5 26 yX4_isFieldPrime wsX4_isFieldPrime) := goodIn_app (goodIn_of _ (by decide +kernel)) ggX5_kinds_X4_isFieldPrime
set_option maxRecDepth 20000 in
theorem ggX5_kinds_X3_kindsWith : GoodIn wsX5_kinds wsX3_kindsWith := goodIn_r _ [16, 17, 18, 19, 15, 20, 21, 22, 23, 24, 25, 26, 27, 28, 29, 30, 31, 32, 33, 34, 35, 36, 37, 38, 39, 40, 41, 42, 43, 44, 48, 49, 50, 51, 52] (by decide +kernel) (by decide +kernel)
set_option maxRecDepth 20000 in
theorem gX5_kinds_X3_kindsWith : GoodIn wsX5_kinds (wsV RX5 214 RX3 yX3_kindsWith wsX3_kindsWith) := goodIn_app (goodIn_of _ (by decide +kernel)) ggX5_kinds_X3_kindsWith
theorem dX5_kinds_0 : decode cX5_kinds 0 = .ok (.iload_n 1, 1) := by decide +kernel
theorem dX5_kinds_1 : decode cX5_kinds 1 = .ok (.bipush 61, 2) := by decide +kernel
theorem dX5_kinds_3 : decode cX5_kinds 3 = .ok (.if_icmp .gt 10, 3) := by decide +kernel
theorem dX5_kinds_6 : decode cX5_kinds 6 = .ok (.iload_n 1, 1) := by decide +kernel
theorem dX5_kinds_7 : decode cX5_kinds 7 = .ok (.invokestatic 26, 3) := by decide +kernel
theorem dX5_kinds_10 : decode cX5_kinds 10 = .ok (.ifCond .ne 8, 3) := by decide +kernel
theorem dX5_kinds_13 : decode cX5_kinds 13 = .ok (.bipush (-2), 2) := by decide +kernel
theorem dX5_kinds_15 : decode cX5_kinds 15 = .ok (.goto 12, 3) := by decide +kernel
theorem dX5_kinds_18 : decode cX5_kinds 18 = .ok (.aload_n 0, 1) := by decide +kernel
theorem dX5_kinds_19 : decode cX5_kinds 19 = .ok (.getfield 22, 3) := by decide +kernel
theorem dX5_kinds_22 : decode cX5_kinds 22 = .ok (.iload_n 1, 1) := by decide +kernel
theorem dX5_kinds_23 : decode cX5_kinds 23 = .ok (.iload_n 2, 1) := by decide +kernel
theorem dX5_kinds_24 : decode cX5_kinds 24 = .ok (.invokevirtual 214, 3) := by decide +kernel
theorem dX5_kinds_27 : decode cX5_kinds 27 = .ok (.ireturn, 1) := by decide +kernel
theorem dX5_curves_0 : decode cX5_curves 0 = .ok (.aload_n 0, 1) := by decide +kernel
theorem dX5_curves_1 : decode cX5_curves 1 = .ok (.getfield 15, 3) := by decide +kernel
theorem dX5_curves_4 : decode cX5_curves 4 = .ok (.ireturn, 1) := by decide +kernel
theorem dX5_drop_0 : decode cX5_drop 0 = .ok (.aload_n 0, 1) := by decide +kernel
theorem dX5_drop_1 : decode cX5_drop 1 = .ok (.getfield 15, 3) := by decide +kernel
theorem dX5_drop_4 : decode cX5_drop 4 = .ok (.iconst 1, 1) := by decide +kernel
theorem dX5_drop_5 : decode cX5_drop 5 = .ok (.if_icmp .ge 5, 3) := by decide +kernel
theorem dX5_drop_8 : decode cX5_drop 8 = .ok (.iconst (-1), 1) := by decide +kernel
theorem dX5_drop_9 : decode cX5_drop 9 = .ok (.ireturn, 1) := by decide +kernel
theorem dX5_at_0 : decode cX5_at 0 = .ok (.iload_n 1, 1) := by decide +kernel
theorem dX5_at_1 : decode cX5_at 1 = .ok (.ifCond .lt 29, 3) := by decide +kernel
theorem dX5_at_4 : decode cX5_at 4 = .ok (.iload_n 1, 1) := by decide +kernel
theorem dX5_at_5 : decode cX5_at 5 = .ok (.aload_n 0, 1) := by decide +kernel
theorem dX5_at_6 : decode cX5_at 6 = .ok (.getfield 15, 3) := by decide +kernel
theorem dX5_at_9 : decode cX5_at 9 = .ok (.if_icmp .ge 21, 3) := by decide +kernel
theorem dX5_at_12 : decode cX5_at 12 = .ok (.iload_n 1, 1) := by decide +kernel
theorem dX5_at_13 : decode cX5_at 13 = .ok (.aload_n 0, 1) := by decide +kernel
theorem dX5_at_14 : decode cX5_at 14 = .ok (.getfield 11, 3) := by decide +kernel
theorem dX5_at_17 : decode cX5_at 17 = .ok (.arraylength, 1) := by decide +kernel
theorem dX5_at_18 : decode cX5_at 18 = .ok (.if_icmp .ge 12, 3) := by decide +kernel
theorem dX5_at_21 : decode cX5_at 21 = .ok (.aload_n 0, 1) := by decide +kernel
theorem dX5_at_22 : decode cX5_at 22 = .ok (.getfield 11, 3) := by decide +kernel
theorem dX5_at_25 : decode cX5_at 25 = .ok (.iload_n 1, 1) := by decide +kernel
theorem dX5_at_26 : decode cX5_at 26 = .ok (.aaload, 1) := by decide +kernel
theorem dX5_at_27 : decode cX5_at 27 = .ok (.goto 4, 3) := by decide +kernel
theorem dX5_at_30 : decode cX5_at 30 = .ok (.aconst_null, 1) := by decide +kernel
theorem dX5_at_31 : decode cX5_at 31 = .ok (.areturn, 1) := by decide +kernel
theorem dX5_madeByKernel_0 : decode cX5_madeByKernel 0 = .ok (.aload_n 0, 1) := by decide +kernel
theorem dX5_madeByKernel_1 : decode cX5_madeByKernel 1 = .ok (.iload_n 1, 1) := by decide +kernel
theorem dX5_madeByKernel_2 : decode cX5_madeByKernel 2 = .ok (.invokevirtual 47, 3) := by decide +kernel
theorem dX5_madeByKernel_5 : decode cX5_madeByKernel 5 = .ok (.astore_n 2, 1) := by decide +kernel
theorem dX5_madeByKernel_6 : decode cX5_madeByKernel 6 = .ok (.aload_n 2, 1) := by decide +kernel
theorem dX5_madeByKernel_7 : decode cX5_madeByKernel 7 = .ok (.ifnull 10, 3) := by decide +kernel
theorem dX5_madeByKernel_17 : decode cX5_madeByKernel 17 = .ok (.aconst_null, 1) := by decide +kernel
theorem dX5_madeByKernel_18 : decode cX5_madeByKernel 18 = .ok (.goto 4, 3) := by decide +kernel
theorem dX5_madeByKernel_22 : decode cX5_madeByKernel 22 = .ok (.areturn, 1) := by decide +kernel
theorem dX5_keep_0 : decode cX5_keep 0 = .ok (.aload_n 0, 1) := by decide +kernel
theorem dX5_keep_1 : decode cX5_keep 1 = .ok (.getfield 15, 3) := by decide +kernel
theorem dX5_keep_4 : decode cX5_keep 4 = .ok (.aload_n 0, 1) := by decide +kernel
theorem dX5_keep_5 : decode cX5_keep 5 = .ok (.getfield 11, 3) := by decide +kernel
theorem dX5_keep_8 : decode cX5_keep 8 = .ok (.arraylength, 1) := by decide +kernel
theorem dX5_keep_9 : decode cX5_keep 9 = .ok (.if_icmp .lt 6, 3) := by decide +kernel
theorem dX5_keep_12 : decode cX5_keep 12 = .ok (.bipush (-4), 2) := by decide +kernel
theorem dX5_keep_14 : decode cX5_keep 14 = .ok (.ireturn, 1) := by decide +kernel
theorem dX5_keep_15 : decode cX5_keep 15 = .ok (.aload_n 0, 1) := by decide +kernel
theorem dX5_keep_16 : decode cX5_keep 16 = .ok (.getfield 11, 3) := by decide +kernel
theorem dX5_keep_19 : decode cX5_keep 19 = .ok (.aload_n 0, 1) := by decide +kernel
theorem dX5_keep_20 : decode cX5_keep 20 = .ok (.getfield 15, 3) := by decide +kernel
theorem dX5_keep_23 : decode cX5_keep 23 = .ok (.aload_n 1, 1) := by decide +kernel
theorem dX5_keep_24 : decode cX5_keep 24 = .ok (.aastore, 1) := by decide +kernel
theorem dX5_keep_25 : decode cX5_keep 25 = .ok (.aload_n 0, 1) := by decide +kernel
theorem dX5_keep_26 : decode cX5_keep 26 = .ok (.dup, 1) := by decide +kernel
theorem dX5_keep_27 : decode cX5_keep 27 = .ok (.getfield 15, 3) := by decide +kernel
theorem dX5_keep_30 : decode cX5_keep 30 = .ok (.iconst 1, 1) := by decide +kernel
theorem dX5_keep_31 : decode cX5_keep 31 = .ok (.iadd, 1) := by decide +kernel
theorem dX5_keep_32 : decode cX5_keep 32 = .ok (.putfield 15, 3) := by decide +kernel
theorem dX5_keep_35 : decode cX5_keep 35 = .ok (.aload_n 0, 1) := by decide +kernel
theorem dX5_keep_36 : decode cX5_keep 36 = .ok (.getfield 15, 3) := by decide +kernel
theorem dX5_keep_39 : decode cX5_keep 39 = .ok (.iconst 1, 1) := by decide +kernel
theorem dX5_keep_40 : decode cX5_keep 40 = .ok (.isub, 1) := by decide +kernel
theorem dX5_keep_41 : decode cX5_keep 41 = .ok (.ireturn, 1) := by decide +kernel
theorem dX5_primeOrder_0 : decode cX5_primeOrder 0 = .ok (.aload_n 1, 1) := by decide +kernel
theorem dX5_primeOrder_1 : decode cX5_primeOrder 1 = .ok (.ifnull 11, 3) := by decide +kernel
theorem dX5_primeOrder_12 : decode cX5_primeOrder 12 = .ok (.iconst 0, 1) := by decide +kernel
theorem dX5_primeOrder_13 : decode cX5_primeOrder 13 = .ok (.ireturn, 1) := by decide +kernel
theorem dX6_init_0 : decode cX6_init 0 = .ok (.aload_n 0, 1) := by decide +kernel
theorem dX6_init_1 : decode cX6_init 1 = .ok (.invokespecial 1, 3) := by decide +kernel
theorem dX6_init_4 : decode cX6_init 4 = .ok (.aload_n 0, 1) := by decide +kernel
theorem dX6_init_5 : decode cX6_init 5 = .ok (.sipush 10008, 3) := by decide +kernel
theorem dX6_init_8 : decode cX6_init 8 = .ok (.newarray .int, 2) := by decide +kernel
theorem dX6_init_10 : decode cX6_init 10 = .ok (.putfield 7, 3) := by decide +kernel
theorem dX6_init_13 : decode cX6_init 13 = .ok (.aload_n 0, 1) := by decide +kernel
theorem dX6_init_14 : decode cX6_init 14 = .ok (.sipush 10008, 3) := by decide +kernel
theorem dX6_init_17 : decode cX6_init 17 = .ok (.newarray .int, 2) := by decide +kernel
theorem dX6_init_19 : decode cX6_init 19 = .ok (.putfield 13, 3) := by decide +kernel
theorem dX6_init_22 : decode cX6_init 22 = .ok (.aload_n 0, 1) := by decide +kernel
theorem dX6_init_23 : decode cX6_init 23 = .ok (.sipush 10300, 3) := by decide +kernel
theorem dX6_init_26 : decode cX6_init 26 = .ok (.newarray .int, 2) := by decide +kernel
theorem dX6_init_28 : decode cX6_init 28 = .ok (.putfield 16, 3) := by decide +kernel
theorem dX6_init_31 : decode cX6_init 31 = .ok (.aload_n 0, 1) := by decide +kernel
theorem dX6_init_32 : decode cX6_init 32 = .ok (.sipush 10008, 3) := by decide +kernel
theorem dX6_init_35 : decode cX6_init 35 = .ok (.newarray .int, 2) := by decide +kernel
theorem dX6_init_37 : decode cX6_init 37 = .ok (.putfield 19, 3) := by decide +kernel
theorem dX6_init_40 : decode cX6_init 40 = .ok (.aload_n 0, 1) := by decide +kernel
theorem dX6_init_41 : decode cX6_init 41 = .ok (.bipush 24, 2) := by decide +kernel
theorem dX6_init_43 : decode cX6_init 43 = .ok (.newarray .int, 2) := by decide +kernel
theorem dX6_init_45 : decode cX6_init 45 = .ok (.putfield 22, 3) := by decide +kernel
theorem dX6_init_48 : decode cX6_init 48 = .ok (.aload_n 0, 1) := by decide +kernel
theorem dX6_init_49 : decode cX6_init 49 = .ok (.bipush 24, 2) := by decide +kernel
theorem dX6_init_51 : decode cX6_init 51 = .ok (.newarray .int, 2) := by decide +kernel
theorem dX6_init_53 : decode cX6_init 53 = .ok (.putfield 25, 3) := by decide +kernel
theorem dX6_init_56 : decode cX6_init 56 = .ok (.aload_n 0, 1) := by decide +kernel
theorem dX6_init_57 : decode cX6_init 57 = .ok (.bipush 24, 2) := by decide +kernel
theorem dX6_init_59 : decode cX6_init 59 = .ok (.newarray .int, 2) := by decide +kernel
theorem dX6_init_61 : decode cX6_init 61 = .ok (.putfield 28, 3) := by decide +kernel
theorem dX6_init_64 : decode cX6_init 64 = .ok (.aload_n 0, 1) := by decide +kernel
theorem dX6_init_65 : decode cX6_init 65 = .ok (.bipush 24, 2) := by decide +kernel
theorem dX6_init_67 : decode cX6_init 67 = .ok (.newarray .int, 2) := by decide +kernel
theorem dX6_init_69 : decode cX6_init 69 = .ok (.putfield 31, 3) := by decide +kernel
theorem dX6_init_72 : decode cX6_init 72 = .ok (.aload_n 0, 1) := by decide +kernel
theorem dX6_init_73 : decode cX6_init 73 = .ok (.bipush 24, 2) := by decide +kernel
theorem dX6_init_75 : decode cX6_init 75 = .ok (.newarray .int, 2) := by decide +kernel
theorem dX6_init_77 : decode cX6_init 77 = .ok (.putfield 34, 3) := by decide +kernel
theorem dX6_init_80 : decode cX6_init 80 = .ok (.aload_n 0, 1) := by decide +kernel
theorem dX6_init_81 : decode cX6_init 81 = .ok (.bipush 24, 2) := by decide +kernel
theorem dX6_init_83 : decode cX6_init 83 = .ok (.newarray .int, 2) := by decide +kernel
theorem dX6_init_85 : decode cX6_init 85 = .ok (.putfield 37, 3) := by decide +kernel
theorem dX6_init_88 : decode cX6_init 88 = .ok (.aload_n 0, 1) := by decide +kernel
theorem dX6_init_89 : decode cX6_init 89 = .ok (.sipush 10300, 3) := by decide +kernel
theorem dX6_init_92 : decode cX6_init 92 = .ok (.newarray .boolean, 2) := by decide +kernel
theorem dX6_init_94 : decode cX6_init 94 = .ok (.putfield 40, 3) := by decide +kernel
theorem dX6_init_97 : decode cX6_init 97 = .ok (.aload_n 0, 1) := by decide +kernel
theorem dX6_init_98 : decode cX6_init 98 = .ok (.bipush 64, 2) := by decide +kernel
theorem dX6_init_100 : decode cX6_init 100 = .ok (.newarray .boolean, 2) := by decide +kernel
theorem dX6_init_102 : decode cX6_init 102 = .ok (.putfield 44, 3) := by decide +kernel
theorem dX6_init_105 : decode cX6_init 105 = .ok (.return_, 1) := by decide +kernel
theorem dX6_in_0 : decode cX6_in 0 = .ok (.lload_n 0, 1) := by decide +kernel
theorem dX6_in_1 : decode cX6_in 1 = .ok (.lload_n 2, 1) := by decide +kernel
theorem dX6_in_2 : decode cX6_in 2 = .ok (.lcmp, 1) := by decide +kernel
theorem dX6_in_3 : decode cX6_in 3 = .ok (.ifCond .lt 14, 3) := by decide +kernel
theorem dX6_in_6 : decode cX6_in 6 = .ok (.lload_n 0, 1) := by decide +kernel
theorem dX6_in_7 : decode cX6_in 7 = .ok (.lload 4, 2) := by decide +kernel
theorem dX6_in_9 : decode cX6_in 9 = .ok (.lcmp, 1) := by decide +kernel
theorem dX6_in_10 : decode cX6_in 10 = .ok (.ifCond .gt 7, 3) := by decide +kernel
theorem dX6_in_13 : decode cX6_in 13 = .ok (.iconst 1, 1) := by decide +kernel
theorem dX6_in_14 : decode cX6_in 14 = .ok (.goto 4, 3) := by decide +kernel
theorem dX6_in_17 : decode cX6_in 17 = .ok (.iconst 0, 1) := by decide +kernel
theorem dX6_in_18 : decode cX6_in 18 = .ok (.ireturn, 1) := by decide +kernel
theorem dX6_isPrime_0 : decode cX6_isPrime 0 = .ok (.iload_n 0, 1) := by decide +kernel
theorem dX6_isPrime_1 : decode cX6_isPrime 1 = .ok (.iconst 1, 1) := by decide +kernel
theorem dX6_isPrime_2 : decode cX6_isPrime 2 = .ok (.if_icmp .le 7, 3) := by decide +kernel
theorem dX6_isPrime_5 : decode cX6_isPrime 5 = .ok (.iconst 1, 1) := by decide +kernel
theorem dX6_isPrime_6 : decode cX6_isPrime 6 = .ok (.goto 4, 3) := by decide +kernel
theorem dX6_isPrime_9 : decode cX6_isPrime 9 = .ok (.iconst 0, 1) := by decide +kernel
theorem dX6_isPrime_10 : decode cX6_isPrime 10 = .ok (.istore_n 1, 1) := by decide +kernel
theorem dX6_isPrime_11 : decode cX6_isPrime 11 = .ok (.iconst 2, 1) := by decide +kernel
theorem dX6_isPrime_12 : decode cX6_isPrime 12 = .ok (.istore_n 2, 1) := by decide +kernel
theorem dX6_isPrime_13 : decode cX6_isPrime 13 = .ok (.iload_n 2, 1) := by decide +kernel
theorem dX6_isPrime_14 : decode cX6_isPrime 14 = .ok (.iload_n 2, 1) := by decide +kernel
theorem dX6_isPrime_15 : decode cX6_isPrime 15 = .ok (.imul, 1) := by decide +kernel
theorem dX6_isPrime_16 : decode cX6_isPrime 16 = .ok (.iload_n 0, 1) := by decide +kernel
theorem dX6_isPrime_17 : decode cX6_isPrime 17 = .ok (.if_icmp .gt 25, 3) := by decide +kernel
theorem dX6_isPrime_20 : decode cX6_isPrime 20 = .ok (.iload_n 1, 1) := by decide +kernel
theorem dX6_isPrime_21 : decode cX6_isPrime 21 = .ok (.ifCond .eq 21, 3) := by decide +kernel
theorem dX6_isPrime_24 : decode cX6_isPrime 24 = .ok (.iload_n 0, 1) := by decide +kernel
theorem dX6_isPrime_25 : decode cX6_isPrime 25 = .ok (.iload_n 2, 1) := by decide +kernel
theorem dX6_isPrime_26 : decode cX6_isPrime 26 = .ok (.irem, 1) := by decide +kernel
theorem dX6_isPrime_27 : decode cX6_isPrime 27 = .ok (.ifCond .eq 7, 3) := by decide +kernel
theorem dX6_isPrime_30 : decode cX6_isPrime 30 = .ok (.iconst 1, 1) := by decide +kernel
theorem dX6_isPrime_31 : decode cX6_isPrime 31 = .ok (.goto 4, 3) := by decide +kernel
theorem dX6_isPrime_34 : decode cX6_isPrime 34 = .ok (.iconst 0, 1) := by decide +kernel
theorem dX6_isPrime_35 : decode cX6_isPrime 35 = .ok (.istore_n 1, 1) := by decide +kernel
theorem dX6_isPrime_36 : decode cX6_isPrime 36 = .ok (.iinc 2 1, 3) := by decide +kernel
theorem dX6_isPrime_39 : decode cX6_isPrime 39 = .ok (.goto (-26), 3) := by decide +kernel
theorem dX6_isPrime_42 : decode cX6_isPrime 42 = .ok (.iload_n 1, 1) := by decide +kernel
theorem dX6_isPrime_43 : decode cX6_isPrime 43 = .ok (.ireturn, 1) := by decide +kernel
theorem dX6_takePrime_0 : decode cX6_takePrime 0 = .ok (.aload_n 0, 1) := by decide +kernel
theorem dX6_takePrime_1 : decode cX6_takePrime 1 = .ok (.iload_n 1, 1) := by decide +kernel
theorem dX6_takePrime_2 : decode cX6_takePrime 2 = .ok (.putfield 47, 3) := by decide +kernel
theorem dX6_takePrime_5 : decode cX6_takePrime 5 = .ok (.aload_n 0, 1) := by decide +kernel
theorem dX6_takePrime_6 : decode cX6_takePrime 6 = .ok (.getfield 51, 3) := by decide +kernel
theorem dX6_takePrime_9 : decode cX6_takePrime 9 = .ok (.iload_n 1, 1) := by decide +kernel
theorem dX6_takePrime_10 : decode cX6_takePrime 10 = .ok (.if_icmp .ne 4, 3) := by decide +kernel
theorem dX6_takePrime_13 : decode cX6_takePrime 13 = .ok (.return_, 1) := by decide +kernel
theorem dX6_takePrime_14 : decode cX6_takePrime 14 = .ok (.aload_n 0, 1) := by decide +kernel
theorem dX6_takePrime_15 : decode cX6_takePrime 15 = .ok (.iload_n 1, 1) := by decide +kernel
theorem dX6_takePrime_16 : decode cX6_takePrime 16 = .ok (.putfield 51, 3) := by decide +kernel
theorem dX6_takePrime_19 : decode cX6_takePrime 19 = .ok (.aload_n 0, 1) := by decide +kernel
theorem dX6_takePrime_20 : decode cX6_takePrime 20 = .ok (.iconst 0, 1) := by decide +kernel
theorem dX6_takePrime_21 : decode cX6_takePrime 21 = .ok (.putfield 54, 3) := by decide +kernel
theorem dX6_takePrime_24 : decode cX6_takePrime 24 = .ok (.aload_n 0, 1) := by decide +kernel
theorem dX6_takePrime_25 : decode cX6_takePrime 25 = .ok (.getfield 7, 3) := by decide +kernel
theorem dX6_takePrime_28 : decode cX6_takePrime 28 = .ok (.iconst 0, 1) := by decide +kernel
theorem dX6_takePrime_29 : decode cX6_takePrime 29 = .ok (.iconst 0, 1) := by decide +kernel
theorem dX6_takePrime_30 : decode cX6_takePrime 30 = .ok (.iastore, 1) := by decide +kernel
theorem dX6_takePrime_31 : decode cX6_takePrime 31 = .ok (.aload_n 0, 1) := by decide +kernel
theorem dX6_takePrime_32 : decode cX6_takePrime 32 = .ok (.getfield 7, 3) := by decide +kernel
theorem dX6_takePrime_35 : decode cX6_takePrime 35 = .ok (.iconst 1, 1) := by decide +kernel
theorem dX6_takePrime_36 : decode cX6_takePrime 36 = .ok (.iconst 1, 1) := by decide +kernel
theorem dX6_takePrime_37 : decode cX6_takePrime 37 = .ok (.iastore, 1) := by decide +kernel
theorem dX6_takePrime_38 : decode cX6_takePrime 38 = .ok (.iconst 2, 1) := by decide +kernel
theorem dX6_takePrime_39 : decode cX6_takePrime 39 = .ok (.istore_n 2, 1) := by decide +kernel
theorem dX6_takePrime_40 : decode cX6_takePrime 40 = .ok (.iload_n 2, 1) := by decide +kernel
theorem dX6_takePrime_41 : decode cX6_takePrime 41 = .ok (.iload_n 1, 1) := by decide +kernel
theorem dX6_takePrime_42 : decode cX6_takePrime 42 = .ok (.if_icmp .ge 39, 3) := by decide +kernel
theorem dX6_takePrime_45 : decode cX6_takePrime 45 = .ok (.aload_n 0, 1) := by decide +kernel
theorem dX6_takePrime_46 : decode cX6_takePrime 46 = .ok (.getfield 7, 3) := by decide +kernel
theorem dX6_takePrime_49 : decode cX6_takePrime 49 = .ok (.iload_n 2, 1) := by decide +kernel
theorem dX6_takePrime_50 : decode cX6_takePrime 50 = .ok (.iload_n 1, 1) := by decide +kernel
theorem dX6_takePrime_51 : decode cX6_takePrime 51 = .ok (.i2l, 1) := by decide +kernel
theorem dX6_takePrime_52 : decode cX6_takePrime 52 = .ok (.iload_n 1, 1) := by decide +kernel
theorem dX6_takePrime_53 : decode cX6_takePrime 53 = .ok (.iload_n 2, 1) := by decide +kernel
theorem dX6_takePrime_54 : decode cX6_takePrime 54 = .ok (.idiv, 1) := by decide +kernel
theorem dX6_takePrime_55 : decode cX6_takePrime 55 = .ok (.i2l, 1) := by decide +kernel
theorem dX6_takePrime_56 : decode cX6_takePrime 56 = .ok (.aload_n 0, 1) := by decide +kernel
theorem dX6_takePrime_57 : decode cX6_takePrime 57 = .ok (.getfield 7, 3) := by decide +kernel
theorem dX6_takePrime_60 : decode cX6_takePrime 60 = .ok (.iload_n 1, 1) := by decide +kernel
theorem dX6_takePrime_61 : decode cX6_takePrime 61 = .ok (.iload_n 2, 1) := by decide +kernel
theorem dX6_takePrime_62 : decode cX6_takePrime 62 = .ok (.irem, 1) := by decide +kernel
theorem dX6_takePrime_63 : decode cX6_takePrime 63 = .ok (.iaload, 1) := by decide +kernel
theorem dX6_takePrime_64 : decode cX6_takePrime 64 = .ok (.i2l, 1) := by decide +kernel
theorem dX6_takePrime_65 : decode cX6_takePrime 65 = .ok (.lmul, 1) := by decide +kernel
theorem dX6_takePrime_66 : decode cX6_takePrime 66 = .ok (.iload_n 1, 1) := by decide +kernel
theorem dX6_takePrime_67 : decode cX6_takePrime 67 = .ok (.i2l, 1) := by decide +kernel
theorem dX6_takePrime_68 : decode cX6_takePrime 68 = .ok (.lrem, 1) := by decide +kernel
theorem dX6_takePrime_69 : decode cX6_takePrime 69 = .ok (.lsub, 1) := by decide +kernel
theorem dX6_takePrime_70 : decode cX6_takePrime 70 = .ok (.iload_n 1, 1) := by decide +kernel
theorem dX6_takePrime_71 : decode cX6_takePrime 71 = .ok (.i2l, 1) := by decide +kernel
theorem dX6_takePrime_72 : decode cX6_takePrime 72 = .ok (.lrem, 1) := by decide +kernel
theorem dX6_takePrime_73 : decode cX6_takePrime 73 = .ok (.l2i, 1) := by decide +kernel
theorem dX6_takePrime_74 : decode cX6_takePrime 74 = .ok (.iastore, 1) := by decide +kernel
theorem dX6_takePrime_75 : decode cX6_takePrime 75 = .ok (.iinc 2 1, 3) := by decide +kernel
theorem dX6_takePrime_78 : decode cX6_takePrime 78 = .ok (.goto (-38), 3) := by decide +kernel
theorem dX6_takePrime_81 : decode cX6_takePrime 81 = .ok (.iconst 0, 1) := by decide +kernel
theorem dX6_takePrime_82 : decode cX6_takePrime 82 = .ok (.istore_n 2, 1) := by decide +kernel
theorem dX6_takePrime_83 : decode cX6_takePrime 83 = .ok (.iload_n 2, 1) := by decide +kernel
theorem dX6_takePrime_84 : decode cX6_takePrime 84 = .ok (.iload_n 1, 1) := by decide +kernel
theorem dX6_takePrime_85 : decode cX6_takePrime 85 = .ok (.if_icmp .ge 16, 3) := by decide +kernel
theorem dX6_takePrime_88 : decode cX6_takePrime 88 = .ok (.aload_n 0, 1) := by decide +kernel
theorem dX6_takePrime_89 : decode cX6_takePrime 89 = .ok (.getfield 13, 3) := by decide +kernel
theorem dX6_takePrime_92 : decode cX6_takePrime 92 = .ok (.iload_n 2, 1) := by decide +kernel
theorem dX6_takePrime_93 : decode cX6_takePrime 93 = .ok (.iconst (-1), 1) := by decide +kernel
theorem dX6_takePrime_94 : decode cX6_takePrime 94 = .ok (.iastore, 1) := by decide +kernel
theorem dX6_takePrime_95 : decode cX6_takePrime 95 = .ok (.iinc 2 1, 3) := by decide +kernel
theorem dX6_takePrime_98 : decode cX6_takePrime 98 = .ok (.goto (-15), 3) := by decide +kernel
theorem dX6_takePrime_101 : decode cX6_takePrime 101 = .ok (.iload_n 1, 1) := by decide +kernel
theorem dX6_takePrime_102 : decode cX6_takePrime 102 = .ok (.iconst 1, 1) := by decide +kernel
theorem dX6_takePrime_103 : decode cX6_takePrime 103 = .ok (.isub, 1) := by decide +kernel
theorem dX6_takePrime_104 : decode cX6_takePrime 104 = .ok (.istore_n 2, 1) := by decide +kernel
theorem dX6_takePrime_105 : decode cX6_takePrime 105 = .ok (.iload_n 2, 1) := by decide +kernel
theorem dX6_takePrime_106 : decode cX6_takePrime 106 = .ok (.ifCond .lt 24, 3) := by decide +kernel
theorem dX6_takePrime_109 : decode cX6_takePrime 109 = .ok (.aload_n 0, 1) := by decide +kernel
theorem dX6_takePrime_110 : decode cX6_takePrime 110 = .ok (.getfield 13, 3) := by decide +kernel
theorem dX6_takePrime_113 : decode cX6_takePrime 113 = .ok (.iload_n 2, 1) := by decide +kernel
theorem dX6_takePrime_114 : decode cX6_takePrime 114 = .ok (.i2l, 1) := by decide +kernel
theorem dX6_takePrime_115 : decode cX6_takePrime 115 = .ok (.iload_n 2, 1) := by decide +kernel
theorem dX6_takePrime_116 : decode cX6_takePrime 116 = .ok (.i2l, 1) := by decide +kernel
theorem dX6_takePrime_117 : decode cX6_takePrime 117 = .ok (.lmul, 1) := by decide +kernel
theorem dX6_takePrime_118 : decode cX6_takePrime 118 = .ok (.iload_n 1, 1) := by decide +kernel
theorem dX6_takePrime_119 : decode cX6_takePrime 119 = .ok (.i2l, 1) := by decide +kernel
theorem dX6_takePrime_120 : decode cX6_takePrime 120 = .ok (.lrem, 1) := by decide +kernel
theorem dX6_takePrime_121 : decode cX6_takePrime 121 = .ok (.l2i, 1) := by decide +kernel
theorem dX6_takePrime_122 : decode cX6_takePrime 122 = .ok (.iload_n 2, 1) := by decide +kernel
theorem dX6_takePrime_123 : decode cX6_takePrime 123 = .ok (.iastore, 1) := by decide +kernel
theorem dX6_takePrime_124 : decode cX6_takePrime 124 = .ok (.iinc 2 (-1), 3) := by decide +kernel
theorem dX6_takePrime_127 : decode cX6_takePrime 127 = .ok (.goto (-22), 3) := by decide +kernel
theorem dX6_takePrime_130 : decode cX6_takePrime 130 = .ok (.return_, 1) := by decide +kernel
theorem dX6_mod_0 : decode cX6_mod 0 = .ok (.lload_n 1, 1) := by decide +kernel
theorem dX6_mod_1 : decode cX6_mod 1 = .ok (.aload_n 0, 1) := by decide +kernel
theorem dX6_mod_2 : decode cX6_mod 2 = .ok (.getfield 47, 3) := by decide +kernel
theorem dX6_mod_5 : decode cX6_mod 5 = .ok (.i2l, 1) := by decide +kernel
theorem dX6_mod_6 : decode cX6_mod 6 = .ok (.lrem, 1) := by decide +kernel
theorem dX6_mod_7 : decode cX6_mod 7 = .ok (.l2i, 1) := by decide +kernel
theorem dX6_mod_8 : decode cX6_mod 8 = .ok (.istore_n 3, 1) := by decide +kernel
theorem dX6_mod_9 : decode cX6_mod 9 = .ok (.iload_n 3, 1) := by decide +kernel
theorem dX6_mod_10 : decode cX6_mod 10 = .ok (.ifCond .ge 12, 3) := by decide +kernel
theorem dX6_mod_13 : decode cX6_mod 13 = .ok (.iload_n 3, 1) := by decide +kernel
theorem dX6_mod_14 : decode cX6_mod 14 = .ok (.aload_n 0, 1) := by decide +kernel
theorem dX6_mod_15 : decode cX6_mod 15 = .ok (.getfield 47, 3) := by decide +kernel
theorem dX6_mod_18 : decode cX6_mod 18 = .ok (.iadd, 1) := by decide +kernel
theorem dX6_mod_19 : decode cX6_mod 19 = .ok (.goto 4, 3) := by decide +kernel
theorem dX6_mod_22 : decode cX6_mod 22 = .ok (.iload_n 3, 1) := by decide +kernel
theorem dX6_mod_23 : decode cX6_mod 23 = .ok (.ireturn, 1) := by decide +kernel
theorem dX6_mul_0 : decode cX6_mul 0 = .ok (.iload_n 1, 1) := by decide +kernel
theorem dX6_mul_1 : decode cX6_mul 1 = .ok (.i2l, 1) := by decide +kernel
theorem dX6_mul_2 : decode cX6_mul 2 = .ok (.iload_n 2, 1) := by decide +kernel
theorem dX6_mul_3 : decode cX6_mul 3 = .ok (.i2l, 1) := by decide +kernel
theorem dX6_mul_4 : decode cX6_mul 4 = .ok (.lmul, 1) := by decide +kernel
theorem dX6_mul_5 : decode cX6_mul 5 = .ok (.aload_n 0, 1) := by decide +kernel
theorem dX6_mul_6 : decode cX6_mul 6 = .ok (.getfield 47, 3) := by decide +kernel
theorem dX6_mul_9 : decode cX6_mul 9 = .ok (.i2l, 1) := by decide +kernel
theorem dX6_mul_10 : decode cX6_mul 10 = .ok (.lrem, 1) := by decide +kernel
theorem dX6_mul_11 : decode cX6_mul 11 = .ok (.l2i, 1) := by decide +kernel
theorem dX6_mul_12 : decode cX6_mul 12 = .ok (.ireturn, 1) := by decide +kernel
set_option maxRecDepth 20000 in
theorem ggX6_right_X6_mul : GoodIn wsX6_right wsX6_mul := goodIn_r _ [7, 8, 13, 14, 15, 16, 17, 18, 19, 20, 21, 22, 23, 24, 25, 26, 27, 28, 29, 30] (by decide +kernel) (by decide +kernel)
set_option maxRecDepth 20000 in
theorem gX6_right_X6_mul : GoodIn wsX6_right (wsV RX6 57 RX6 yX6_mul wsX6_mul) := goodIn_app (goodIn_of _ (by decide +kernel)) ggX6_right_X6_mul
set_option maxRecDepth 20000 in
theorem ggX6_right_X6_mod : GoodIn wsX6_right wsX6_mod := goodIn_r _ [12, 8, 13, 14, 15, 16, 17, 18, 19, 20, 21, 22, 23, 24, 25, 26, 27, 28, 29, 30] (by decide +kernel) (by decide +kernel)
set_option maxRecDepth 20000 in
theorem gX6_right_X6_mod : GoodIn wsX6_right (wsV RX6 67 RX6 yX6_mod wsX6_mod) := goodIn_app (goodIn_of _ (by decide +kernel)) ggX6_right_X6_mod
theorem dX6_right_0 : decode cX6_right 0 = .ok (.aload_n 0, 1) := by decide +kernel
theorem dX6_right_1 : decode cX6_right 1 = .ok (.aload_n 0, 1) := by decide +kernel
theorem dX6_right_2 : decode cX6_right 2 = .ok (.aload_n 0, 1) := by decide +kernel
theorem dX6_right_3 : decode cX6_right 3 = .ok (.iload_n 1, 1) := by decide +kernel
theorem dX6_right_4 : decode cX6_right 4 = .ok (.iload_n 1, 1) := by decide +kernel
theorem dX6_right_5 : decode cX6_right 5 = .ok (.invokevirtual 57, 3) := by decide +kernel
theorem dX6_right_8 : decode cX6_right 8 = .ok (.iload_n 1, 1) := by decide +kernel
theorem dX6_right_9 : decode cX6_right 9 = .ok (.invokevirtual 57, 3) := by decide +kernel
theorem dX6_right_12 : decode cX6_right 12 = .ok (.i2l, 1) := by decide +kernel
theorem dX6_right_13 : decode cX6_right 13 = .ok (.aload_n 0, 1) := by decide +kernel
theorem dX6_right_14 : decode cX6_right 14 = .ok (.aload_n 0, 1) := by decide +kernel
theorem dX6_right_15 : decode cX6_right 15 = .ok (.getfield 61, 3) := by decide +kernel
theorem dX6_right_18 : decode cX6_right 18 = .ok (.iload_n 1, 1) := by decide +kernel
theorem dX6_right_19 : decode cX6_right 19 = .ok (.invokevirtual 57, 3) := by decide +kernel
theorem dX6_right_22 : decode cX6_right 22 = .ok (.i2l, 1) := by decide +kernel
theorem dX6_right_23 : decode cX6_right 23 = .ok (.ladd, 1) := by decide +kernel
theorem dX6_right_24 : decode cX6_right 24 = .ok (.aload_n 0, 1) := by decide +kernel
theorem dX6_right_25 : decode cX6_right 25 = .ok (.getfield 64, 3) := by decide +kernel
theorem dX6_right_28 : decode cX6_right 28 = .ok (.i2l, 1) := by decide +kernel
theorem dX6_right_29 : decode cX6_right 29 = .ok (.ladd, 1) := by decide +kernel
theorem dX6_right_30 : decode cX6_right 30 = .ok (.invokevirtual 67, 3) := by decide +kernel
theorem dX6_right_33 : decode cX6_right 33 = .ok (.ireturn, 1) := by decide +kernel
set_option maxRecDepth 20000 in
theorem ggX6_take_X6_takePrime : GoodIn wsX6_take wsX6_takePrime := goodIn_r _ [8, 9, 10, 3, 11, 12, 13, 14, 15, 16, 17, 18, 19, 20, 21, 22, 23, 24, 25, 26, 27, 28, 29, 30] (by decide +kernel) (by decide +kernel)
set_option maxRecDepth 20000 in
theorem gX6_take_X6_takePrime : GoodIn wsX6_take (wsV RX6 71 RX6 yX6_takePrime wsX6_takePrime) := goodIn_app (goodIn_of _ (by decide +kernel)) ggX6_take_X6_takePrime
theorem dX6_take_0 : decode cX6_take 0 = .ok (.aload_n 0, 1) := by decide +kernel
theorem dX6_take_1 : decode cX6_take 1 = .ok (.iload_n 1, 1) := by decide +kernel
theorem dX6_take_2 : decode cX6_take 2 = .ok (.invokevirtual 71, 3) := by decide +kernel
theorem dX6_take_5 : decode cX6_take 5 = .ok (.aload_n 0, 1) := by decide +kernel
theorem dX6_take_6 : decode cX6_take 6 = .ok (.getfield 61, 3) := by decide +kernel
theorem dX6_take_9 : decode cX6_take 9 = .ok (.iload_n 2, 1) := by decide +kernel
theorem dX6_take_10 : decode cX6_take 10 = .ok (.if_icmp .ne 11, 3) := by decide +kernel
theorem dX6_take_13 : decode cX6_take 13 = .ok (.aload_n 0, 1) := by decide +kernel
theorem dX6_take_14 : decode cX6_take 14 = .ok (.getfield 64, 3) := by decide +kernel
theorem dX6_take_17 : decode cX6_take 17 = .ok (.iload_n 3, 1) := by decide +kernel
theorem dX6_take_18 : decode cX6_take 18 = .ok (.if_icmp .eq 8, 3) := by decide +kernel
theorem dX6_take_21 : decode cX6_take 21 = .ok (.aload_n 0, 1) := by decide +kernel
theorem dX6_take_22 : decode cX6_take 22 = .ok (.iconst 0, 1) := by decide +kernel
theorem dX6_take_23 : decode cX6_take 23 = .ok (.putfield 54, 3) := by decide +kernel
theorem dX6_take_26 : decode cX6_take 26 = .ok (.aload_n 0, 1) := by decide +kernel
theorem dX6_take_27 : decode cX6_take 27 = .ok (.iload_n 2, 1) := by decide +kernel
theorem dX6_take_28 : decode cX6_take 28 = .ok (.putfield 61, 3) := by decide +kernel
theorem dX6_take_31 : decode cX6_take 31 = .ok (.aload_n 0, 1) := by decide +kernel
theorem dX6_take_32 : decode cX6_take 32 = .ok (.iload_n 3, 1) := by decide +kernel
theorem dX6_take_33 : decode cX6_take 33 = .ok (.putfield 64, 3) := by decide +kernel
theorem dX6_take_36 : decode cX6_take 36 = .ok (.return_, 1) := by decide +kernel
set_option maxRecDepth 20000 in
theorem ggX6_isWanted_X6_in : GoodIn wsX6_isWanted wsX6_in := goodIn_r _ [6] (by decide +kernel) (by decide +kernel)
set_option maxRecDepth 20000 in
theorem gX6_isWanted_X6_in : GoodIn wsX6_isWanted (va_wsS RX6 100 yX6_in wsX6_in) := goodIn_app (goodIn_of _ (by decide +kernel)) ggX6_isWanted_X6_in
set_option maxRecDepth 20000 in
theorem ggX6_isWanted_X6_isPrime : GoodIn wsX6_isWanted wsX6_isPrime := goodIn_r _ [9] (by decide +kernel) (by decide +kernel)
set_option maxRecDepth 20000 in
theorem gX6_isWanted_X6_isPrime : GoodIn wsX6_isWanted (va_wsS RX6 104 yX6_isPrime wsX6_isPrime) := goodIn_app (goodIn_of _ (by decide +kernel)) ggX6_isWanted_X6_isPrime
theorem dX6_isWanted_0 : decode cX6_isWanted 0 = .ok (.iload_n 0, 1) := by decide +kernel
theorem dX6_isWanted_1 : decode cX6_isWanted 1 = .ok (.i2l, 1) := by decide +kernel
theorem dX6_isWanted_2 : decode cX6_isWanted 2 = .ok (.ldc2_w 96, 3) := by decide +kernel
theorem dX6_isWanted_5 : decode cX6_isWanted 5 = .ok (.ldc2_w 98, 3) := by decide +kernel
theorem dX6_isWanted_8 : decode cX6_isWanted 8 = .ok (.invokestatic 100, 3) := by decide +kernel
theorem dX6_isWanted_11 : decode cX6_isWanted 11 = .ok (.ifCond .eq 14, 3) := by decide +kernel
theorem dX6_isWanted_14 : decode cX6_isWanted 14 = .ok (.iload_n 0, 1) := by decide +kernel
theorem dX6_isWanted_15 : decode cX6_isWanted 15 = .ok (.invokestatic 104, 3) := by decide +kernel
theorem dX6_isWanted_18 : decode cX6_isWanted 18 = .ok (.ifCond .eq 7, 3) := by decide +kernel
theorem dX6_isWanted_21 : decode cX6_isWanted 21 = .ok (.iconst 1, 1) := by decide +kernel
theorem dX6_isWanted_22 : decode cX6_isWanted 22 = .ok (.goto 4, 3) := by decide +kernel
theorem dX6_isWanted_25 : decode cX6_isWanted 25 = .ok (.iconst 0, 1) := by decide +kernel
theorem dX6_isWanted_26 : decode cX6_isWanted 26 = .ok (.ireturn, 1) := by decide +kernel
set_option maxRecDepth 20000 in
theorem ggX6_split_X6_mul : GoodIn wsX6_split wsX6_mul := goodIn_r _ [9, 10, 15, 16, 17, 18, 19, 20, 21, 22, 23, 24, 25, 26, 27, 28, 29, 30, 31, 32] (by decide +kernel) (by decide +kernel)
set_option maxRecDepth 20000 in
theorem gX6_split_X6_mul : GoodIn wsX6_split (wsV RX6 57 RX6 yX6_mul wsX6_mul) := goodIn_app (goodIn_of _ (by decide +kernel)) ggX6_split_X6_mul
set_option maxRecDepth 20000 in
theorem ggX6_split_X6_mod : GoodIn wsX6_split wsX6_mod := goodIn_r _ [14, 10, 15, 16, 17, 18, 19, 20, 21, 22, 23, 24, 25, 26, 27, 28, 29, 30, 31, 32] (by decide +kernel) (by decide +kernel)
set_option maxRecDepth 20000 in
theorem gX6_split_X6_mod : GoodIn wsX6_split (wsV RX6 67 RX6 yX6_mod wsX6_mod) := goodIn_app (goodIn_of _ (by decide +kernel)) ggX6_split_X6_mod
theorem dX6_split_0 : decode cX6_split 0 = .ok (.aload_n 0, 1) := by decide +kernel
theorem dX6_split_1 : decode cX6_split 1 = .ok (.ldc2_w 108, 3) := by decide +kernel
theorem dX6_split_4 : decode cX6_split 4 = .ok (.aload_n 0, 1) := by decide +kernel
theorem dX6_split_5 : decode cX6_split 5 = .ok (.aload_n 0, 1) := by decide +kernel
theorem dX6_split_6 : decode cX6_split 6 = .ok (.aload_n 0, 1) := by decide +kernel
theorem dX6_split_7 : decode cX6_split 7 = .ok (.getfield 61, 3) := by decide +kernel
theorem dX6_split_10 : decode cX6_split 10 = .ok (.aload_n 0, 1) := by decide +kernel
theorem dX6_split_11 : decode cX6_split 11 = .ok (.getfield 61, 3) := by decide +kernel
theorem dX6_split_14 : decode cX6_split 14 = .ok (.invokevirtual 57, 3) := by decide +kernel
theorem dX6_split_17 : decode cX6_split 17 = .ok (.aload_n 0, 1) := by decide +kernel
theorem dX6_split_18 : decode cX6_split 18 = .ok (.getfield 61, 3) := by decide +kernel
theorem dX6_split_21 : decode cX6_split 21 = .ok (.invokevirtual 57, 3) := by decide +kernel
theorem dX6_split_24 : decode cX6_split 24 = .ok (.i2l, 1) := by decide +kernel
theorem dX6_split_25 : decode cX6_split 25 = .ok (.lmul, 1) := by decide +kernel
theorem dX6_split_26 : decode cX6_split 26 = .ok (.ldc2_w 110, 3) := by decide +kernel
theorem dX6_split_29 : decode cX6_split 29 = .ok (.aload_n 0, 1) := by decide +kernel
theorem dX6_split_30 : decode cX6_split 30 = .ok (.aload_n 0, 1) := by decide +kernel
theorem dX6_split_31 : decode cX6_split 31 = .ok (.getfield 64, 3) := by decide +kernel
theorem dX6_split_34 : decode cX6_split 34 = .ok (.aload_n 0, 1) := by decide +kernel
theorem dX6_split_35 : decode cX6_split 35 = .ok (.getfield 64, 3) := by decide +kernel
theorem dX6_split_38 : decode cX6_split 38 = .ok (.invokevirtual 57, 3) := by decide +kernel
theorem dX6_split_41 : decode cX6_split 41 = .ok (.i2l, 1) := by decide +kernel
theorem dX6_split_42 : decode cX6_split 42 = .ok (.lmul, 1) := by decide +kernel
theorem dX6_split_43 : decode cX6_split 43 = .ok (.ladd, 1) := by decide +kernel
theorem dX6_split_44 : decode cX6_split 44 = .ok (.invokevirtual 67, 3) := by decide +kernel
theorem dX6_split_47 : decode cX6_split 47 = .ok (.ireturn, 1) := by decide +kernel
theorem dX6_make_0 : decode cX6_make 0 = .ok (.aload_n 0, 1) := by decide +kernel
theorem dX6_make_1 : decode cX6_make 1 = .ok (.getfield 22, 3) := by decide +kernel
theorem dX6_make_4 : decode cX6_make 4 = .ok (.aload_n 0, 1) := by decide +kernel
theorem dX6_make_5 : decode cX6_make 5 = .ok (.getfield 112, 3) := by decide +kernel
theorem dX6_make_8 : decode cX6_make 8 = .ok (.iload_n 1, 1) := by decide +kernel
theorem dX6_make_9 : decode cX6_make 9 = .ok (.iastore, 1) := by decide +kernel
theorem dX6_make_10 : decode cX6_make 10 = .ok (.aload_n 0, 1) := by decide +kernel
theorem dX6_make_11 : decode cX6_make 11 = .ok (.getfield 25, 3) := by decide +kernel
theorem dX6_make_14 : decode cX6_make 14 = .ok (.aload_n 0, 1) := by decide +kernel
theorem dX6_make_15 : decode cX6_make 15 = .ok (.getfield 112, 3) := by decide +kernel
theorem dX6_make_18 : decode cX6_make 18 = .ok (.iload_n 2, 1) := by decide +kernel
theorem dX6_make_19 : decode cX6_make 19 = .ok (.iastore, 1) := by decide +kernel
theorem dX6_make_20 : decode cX6_make 20 = .ok (.aload_n 0, 1) := by decide +kernel
theorem dX6_make_21 : decode cX6_make 21 = .ok (.getfield 28, 3) := by decide +kernel
theorem dX6_make_24 : decode cX6_make 24 = .ok (.aload_n 0, 1) := by decide +kernel
theorem dX6_make_25 : decode cX6_make 25 = .ok (.getfield 112, 3) := by decide +kernel
theorem dX6_make_28 : decode cX6_make 28 = .ok (.iload_n 3, 1) := by decide +kernel
theorem dX6_make_29 : decode cX6_make 29 = .ok (.iastore, 1) := by decide +kernel
theorem dX6_make_30 : decode cX6_make 30 = .ok (.aload_n 0, 1) := by decide +kernel
theorem dX6_make_31 : decode cX6_make 31 = .ok (.getfield 31, 3) := by decide +kernel
theorem dX6_make_34 : decode cX6_make 34 = .ok (.aload_n 0, 1) := by decide +kernel
theorem dX6_make_35 : decode cX6_make 35 = .ok (.getfield 112, 3) := by decide +kernel
theorem dX6_make_38 : decode cX6_make 38 = .ok (.iconst (-1), 1) := by decide +kernel
theorem dX6_make_39 : decode cX6_make 39 = .ok (.iastore, 1) := by decide +kernel
theorem dX6_make_40 : decode cX6_make 40 = .ok (.aload_n 0, 1) := by decide +kernel
theorem dX6_make_41 : decode cX6_make 41 = .ok (.dup, 1) := by decide +kernel
theorem dX6_make_42 : decode cX6_make 42 = .ok (.getfield 112, 3) := by decide +kernel
theorem dX6_make_45 : decode cX6_make 45 = .ok (.iconst 1, 1) := by decide +kernel
theorem dX6_make_46 : decode cX6_make 46 = .ok (.iadd, 1) := by decide +kernel
theorem dX6_make_47 : decode cX6_make 47 = .ok (.putfield 112, 3) := by decide +kernel
theorem dX6_make_50 : decode cX6_make 50 = .ok (.aload_n 0, 1) := by decide +kernel
theorem dX6_make_51 : decode cX6_make 51 = .ok (.getfield 112, 3) := by decide +kernel
theorem dX6_make_54 : decode cX6_make 54 = .ok (.iconst 1, 1) := by decide +kernel
theorem dX6_make_55 : decode cX6_make 55 = .ok (.isub, 1) := by decide +kernel
theorem dX6_make_56 : decode cX6_make 56 = .ok (.ireturn, 1) := by decide +kernel
set_option maxRecDepth 20000 in
theorem ggX6_curve_X6_isWanted : GoodIn wsX6_curve wsX6_isWanted := goodIn_r _ [5, 6, 7, 8, 9, 4, 10, 11, 12, 13] (by decide +kernel) (by decide +kernel)
set_option maxRecDepth 20000 in
theorem gX6_curve_X6_isWanted : GoodIn wsX6_curve (va_wsS RX6 115 yX6_isWanted wsX6_isWanted) := goodIn_app (goodIn_of _ (by decide +kernel)) ggX6_curve_X6_isWanted
set_option maxRecDepth 20000 in
theorem ggX6_curve_X6_in : GoodIn wsX6_curve wsX6_in := goodIn_r _ [10] (by decide +kernel) (by decide +kernel)
set_option maxRecDepth 20000 in
theorem gX6_curve_X6_in : GoodIn wsX6_curve (va_wsS RX6 100 yX6_in wsX6_in) := goodIn_app (goodIn_of _ (by decide +kernel)) ggX6_curve_X6_in
set_option maxRecDepth 20000 in
theorem ggX6_curve_X6_take : GoodIn wsX6_curve wsX6_take := goodIn_r _ [17, 18, 19, 20, 21, 22, 23, 4, 24, 25, 26, 27, 28, 51, 52, 53, 54, 55, 56, 57, 58, 59, 60, 61, 62, 63, 64, 65, 66, 67, 68] (by decide +kernel) (by decide +kernel)
set_option maxRecDepth 20000 in
theorem gX6_curve_X6_take : GoodIn wsX6_curve (wsV RX6 118 RX6 yX6_take wsX6_take) := goodIn_app (goodIn_of _ (by decide +kernel)) ggX6_curve_X6_take
set_option maxRecDepth 20000 in
theorem ggX6_curve_X6_split : GoodIn wsX6_curve wsX6_split := goodIn_r _ [32, 33, 18, 34, 19, 35, 36, 37, 4, 38, 25, 39, 40, 41, 42, 51, 52, 53, 54, 55, 56, 57, 58, 59, 60, 61, 62, 63, 64, 65, 66, 67, 68] (by decide +kernel) (by decide +kernel)
set_option maxRecDepth 20000 in
theorem gX6_curve_X6_split : GoodIn wsX6_curve (wsV RX6 122 RX6 yX6_split wsX6_split) := goodIn_app (goodIn_of _ (by decide +kernel)) ggX6_curve_X6_split
set_option maxRecDepth 20000 in
theorem ggX6_curve_X6_make : GoodIn wsX6_curve wsX6_make := goodIn_r _ [46, 47, 1, 48, 49, 50, 51, 52, 53, 54, 55, 56, 57, 58, 59, 60, 61, 62, 63, 64, 65, 66, 67, 68] (by decide +kernel) (by decide +kernel)
set_option maxRecDepth 20000 in
theorem gX6_curve_X6_make : GoodIn wsX6_curve (wsV RX6 126 RX6 yX6_make wsX6_make) := goodIn_app (goodIn_of _ (by decide +kernel)) ggX6_curve_X6_make
theorem dX6_curve_0 : decode cX6_curve 0 = .ok (.iload_n 1, 1) := by decide +kernel
theorem dX6_curve_1 : decode cX6_curve 1 = .ok (.invokestatic 115, 3) := by decide +kernel
theorem dX6_curve_4 : decode cX6_curve 4 = .ok (.ifCond .eq 29, 3) := by decide +kernel
theorem dX6_curve_7 : decode cX6_curve 7 = .ok (.iload_n 2, 1) := by decide +kernel
theorem dX6_curve_8 : decode cX6_curve 8 = .ok (.i2l, 1) := by decide +kernel
theorem dX6_curve_9 : decode cX6_curve 9 = .ok (.lconst 0, 1) := by decide +kernel
theorem dX6_curve_10 : decode cX6_curve 10 = .ok (.iload_n 1, 1) := by decide +kernel
theorem dX6_curve_11 : decode cX6_curve 11 = .ok (.iconst 1, 1) := by decide +kernel
theorem dX6_curve_12 : decode cX6_curve 12 = .ok (.isub, 1) := by decide +kernel
theorem dX6_curve_13 : decode cX6_curve 13 = .ok (.i2l, 1) := by decide +kernel
theorem dX6_curve_14 : decode cX6_curve 14 = .ok (.invokestatic 100, 3) := by decide +kernel
theorem dX6_curve_17 : decode cX6_curve 17 = .ok (.ifCond .eq 16, 3) := by decide +kernel
theorem dX6_curve_20 : decode cX6_curve 20 = .ok (.iload_n 3, 1) := by decide +kernel
theorem dX6_curve_21 : decode cX6_curve 21 = .ok (.i2l, 1) := by decide +kernel
theorem dX6_curve_22 : decode cX6_curve 22 = .ok (.lconst 0, 1) := by decide +kernel
theorem dX6_curve_23 : decode cX6_curve 23 = .ok (.iload_n 1, 1) := by decide +kernel
theorem dX6_curve_24 : decode cX6_curve 24 = .ok (.iconst 1, 1) := by decide +kernel
theorem dX6_curve_25 : decode cX6_curve 25 = .ok (.isub, 1) := by decide +kernel
theorem dX6_curve_26 : decode cX6_curve 26 = .ok (.i2l, 1) := by decide +kernel
theorem dX6_curve_27 : decode cX6_curve 27 = .ok (.invokestatic 100, 3) := by decide +kernel
theorem dX6_curve_30 : decode cX6_curve 30 = .ok (.ifCond .ne 6, 3) := by decide +kernel
theorem dX6_curve_33 : decode cX6_curve 33 = .ok (.bipush (-2), 2) := by decide +kernel
theorem dX6_curve_35 : decode cX6_curve 35 = .ok (.ireturn, 1) := by decide +kernel
theorem dX6_curve_36 : decode cX6_curve 36 = .ok (.aload_n 0, 1) := by decide +kernel
theorem dX6_curve_37 : decode cX6_curve 37 = .ok (.iload_n 1, 1) := by decide +kernel
theorem dX6_curve_38 : decode cX6_curve 38 = .ok (.iload_n 2, 1) := by decide +kernel
theorem dX6_curve_39 : decode cX6_curve 39 = .ok (.iload_n 3, 1) := by decide +kernel
theorem dX6_curve_40 : decode cX6_curve 40 = .ok (.invokevirtual 118, 3) := by decide +kernel
theorem dX6_curve_43 : decode cX6_curve 43 = .ok (.aload_n 0, 1) := by decide +kernel
theorem dX6_curve_44 : decode cX6_curve 44 = .ok (.invokevirtual 122, 3) := by decide +kernel
theorem dX6_curve_47 : decode cX6_curve 47 = .ok (.ifCond .ne 6, 3) := by decide +kernel
theorem dX6_curve_50 : decode cX6_curve 50 = .ok (.bipush (-3), 2) := by decide +kernel
theorem dX6_curve_52 : decode cX6_curve 52 = .ok (.ireturn, 1) := by decide +kernel
theorem dX6_curve_53 : decode cX6_curve 53 = .ok (.aload_n 0, 1) := by decide +kernel
theorem dX6_curve_54 : decode cX6_curve 54 = .ok (.getfield 112, 3) := by decide +kernel
theorem dX6_curve_57 : decode cX6_curve 57 = .ok (.bipush 24, 2) := by decide +kernel
theorem dX6_curve_59 : decode cX6_curve 59 = .ok (.if_icmp .ne 8, 3) := by decide +kernel
theorem dX6_curve_62 : decode cX6_curve 62 = .ok (.bipush (-4), 2) := by decide +kernel
theorem dX6_curve_64 : decode cX6_curve 64 = .ok (.goto 10, 3) := by decide +kernel
theorem dX6_curve_67 : decode cX6_curve 67 = .ok (.aload_n 0, 1) := by decide +kernel
theorem dX6_curve_68 : decode cX6_curve 68 = .ok (.iload_n 1, 1) := by decide +kernel
theorem dX6_curve_69 : decode cX6_curve 69 = .ok (.iload_n 2, 1) := by decide +kernel
theorem dX6_curve_70 : decode cX6_curve 70 = .ok (.iload_n 3, 1) := by decide +kernel
theorem dX6_curve_71 : decode cX6_curve 71 = .ok (.invokevirtual 126, 3) := by decide +kernel
theorem dX6_curve_74 : decode cX6_curve 74 = .ok (.ireturn, 1) := by decide +kernel
theorem dX6_has_0 : decode cX6_has 0 = .ok (.iload_n 1, 1) := by decide +kernel
theorem dX6_has_1 : decode cX6_has 1 = .ok (.i2l, 1) := by decide +kernel
theorem dX6_has_2 : decode cX6_has 2 = .ok (.lconst 0, 1) := by decide +kernel
theorem dX6_has_3 : decode cX6_has 3 = .ok (.aload_n 0, 1) := by decide +kernel
theorem dX6_has_4 : decode cX6_has 4 = .ok (.getfield 112, 3) := by decide +kernel
theorem dX6_has_7 : decode cX6_has 7 = .ok (.iconst 1, 1) := by decide +kernel
theorem dX6_has_8 : decode cX6_has 8 = .ok (.isub, 1) := by decide +kernel
theorem dX6_has_9 : decode cX6_has 9 = .ok (.i2l, 1) := by decide +kernel
theorem dX6_has_10 : decode cX6_has 10 = .ok (.invokestatic 100, 3) := by decide +kernel
theorem dX6_has_13 : decode cX6_has 13 = .ok (.ifCond .ne 5, 3) := by decide +kernel
theorem dX6_has_16 : decode cX6_has 16 = .ok (.iconst 0, 1) := by decide +kernel
theorem dX6_has_17 : decode cX6_has 17 = .ok (.ireturn, 1) := by decide +kernel
set_option maxRecDepth 20000 in
theorem ggX6_jOf_X6_mul : GoodIn wsX6_jOf wsX6_mul := goodIn_r _ [8, 9, 21, 22, 23, 24, 25, 26, 27, 28, 29, 30, 31, 32, 33, 34, 35, 36, 37, 38] (by decide +kernel) (by decide +kernel)
set_option maxRecDepth 20000 in
theorem gX6_jOf_X6_mul : GoodIn wsX6_jOf (wsV RX6 57 RX6 yX6_mul wsX6_mul) := goodIn_app (goodIn_of _ (by decide +kernel)) ggX6_jOf_X6_mul
set_option maxRecDepth 20000 in
theorem ggX6_jOf_X6_mod : GoodIn wsX6_jOf wsX6_mod := goodIn_r _ [13, 9, 21, 22, 23, 24, 25, 26, 27, 28, 29, 30, 31, 32, 33, 34, 35, 36, 37, 38] (by decide +kernel) (by decide +kernel)
set_option maxRecDepth 20000 in
theorem gX6_jOf_X6_mod : GoodIn wsX6_jOf (wsV RX6 67 RX6 yX6_mod wsX6_mod) := goodIn_app (goodIn_of _ (by decide +kernel)) ggX6_jOf_X6_mod
set_option maxRecDepth 20000 in
theorem ggX6_jOf_X6_split : GoodIn wsX6_jOf wsX6_split := goodIn_r _ [17, 18, 1, 19, 20, 4, 5, 6, 7, 8, 9, 10, 11, 12, 13, 21, 22, 23, 24, 25, 26, 27, 28, 29, 30, 31, 32, 33, 34, 35, 36, 37, 38] (by decide +kernel) (by decide +kernel)
set_option maxRecDepth 20000 in
theorem gX6_jOf_X6_split : GoodIn wsX6_jOf (wsV RX6 122 RX6 yX6_split wsX6_split) := goodIn_app (goodIn_of _ (by decide +kernel)) ggX6_jOf_X6_split
theorem dX6_jOf_0 : decode cX6_jOf 0 = .ok (.aload_n 0, 1) := by decide +kernel
theorem dX6_jOf_1 : decode cX6_jOf 1 = .ok (.iconst 4, 1) := by decide +kernel
theorem dX6_jOf_2 : decode cX6_jOf 2 = .ok (.aload_n 0, 1) := by decide +kernel
theorem dX6_jOf_3 : decode cX6_jOf 3 = .ok (.aload_n 0, 1) := by decide +kernel
theorem dX6_jOf_4 : decode cX6_jOf 4 = .ok (.aload_n 0, 1) := by decide +kernel
theorem dX6_jOf_5 : decode cX6_jOf 5 = .ok (.getfield 61, 3) := by decide +kernel
theorem dX6_jOf_8 : decode cX6_jOf 8 = .ok (.aload_n 0, 1) := by decide +kernel
theorem dX6_jOf_9 : decode cX6_jOf 9 = .ok (.getfield 61, 3) := by decide +kernel
theorem dX6_jOf_12 : decode cX6_jOf 12 = .ok (.invokevirtual 57, 3) := by decide +kernel
theorem dX6_jOf_15 : decode cX6_jOf 15 = .ok (.aload_n 0, 1) := by decide +kernel
theorem dX6_jOf_16 : decode cX6_jOf 16 = .ok (.getfield 61, 3) := by decide +kernel
theorem dX6_jOf_19 : decode cX6_jOf 19 = .ok (.invokevirtual 57, 3) := by decide +kernel
theorem dX6_jOf_22 : decode cX6_jOf 22 = .ok (.invokevirtual 57, 3) := by decide +kernel
theorem dX6_jOf_25 : decode cX6_jOf 25 = .ok (.istore_n 1, 1) := by decide +kernel
theorem dX6_jOf_26 : decode cX6_jOf 26 = .ok (.aload_n 0, 1) := by decide +kernel
theorem dX6_jOf_27 : decode cX6_jOf 27 = .ok (.aload_n 0, 1) := by decide +kernel
theorem dX6_jOf_28 : decode cX6_jOf 28 = .ok (.aload_n 0, 1) := by decide +kernel
theorem dX6_jOf_29 : decode cX6_jOf 29 = .ok (.ldc2_w 130, 3) := by decide +kernel
theorem dX6_jOf_32 : decode cX6_jOf 32 = .ok (.invokevirtual 67, 3) := by decide +kernel
theorem dX6_jOf_35 : decode cX6_jOf 35 = .ok (.iload_n 1, 1) := by decide +kernel
theorem dX6_jOf_36 : decode cX6_jOf 36 = .ok (.invokevirtual 57, 3) := by decide +kernel
theorem dX6_jOf_39 : decode cX6_jOf 39 = .ok (.aload_n 0, 1) := by decide +kernel
theorem dX6_jOf_40 : decode cX6_jOf 40 = .ok (.getfield 7, 3) := by decide +kernel
theorem dX6_jOf_43 : decode cX6_jOf 43 = .ok (.aload_n 0, 1) := by decide +kernel
theorem dX6_jOf_44 : decode cX6_jOf 44 = .ok (.invokevirtual 122, 3) := by decide +kernel
theorem dX6_jOf_47 : decode cX6_jOf 47 = .ok (.iaload, 1) := by decide +kernel
theorem dX6_jOf_48 : decode cX6_jOf 48 = .ok (.invokevirtual 57, 3) := by decide +kernel
theorem dX6_jOf_51 : decode cX6_jOf 51 = .ok (.ireturn, 1) := by decide +kernel
theorem dX6_told_0 : decode cX6_told 0 = .ok (.aload_n 0, 1) := by decide +kernel
theorem dX6_told_1 : decode cX6_told 1 = .ok (.iload_n 1, 1) := by decide +kernel
theorem dX6_told_2 : decode cX6_told 2 = .ok (.invokevirtual 132, 3) := by decide +kernel
theorem dX6_told_5 : decode cX6_told 5 = .ok (.ifCond .ne 6, 3) := by decide +kernel
theorem dX6_told_8 : decode cX6_told 8 = .ok (.bipush (-2), 2) := by decide +kernel
theorem dX6_told_10 : decode cX6_told 10 = .ok (.ireturn, 1) := by decide +kernel
theorem dX6_twist_0 : decode cX6_twist 0 = .ok (.aload_n 0, 1) := by decide +kernel
theorem dX6_twist_1 : decode cX6_twist 1 = .ok (.iload_n 1, 1) := by decide +kernel
theorem dX6_twist_2 : decode cX6_twist 2 = .ok (.invokevirtual 132, 3) := by decide +kernel
theorem dX6_twist_5 : decode cX6_twist 5 = .ok (.ifCond .ne 6, 3) := by decide +kernel
theorem dX6_twist_8 : decode cX6_twist 8 = .ok (.bipush (-2), 2) := by decide +kernel
theorem dX6_twist_10 : decode cX6_twist 10 = .ok (.ireturn, 1) := by decide +kernel
theorem dX6_map_0 : decode cX6_map 0 = .ok (.aload_n 0, 1) := by decide +kernel
theorem dX6_map_1 : decode cX6_map 1 = .ok (.iload_n 2, 1) := by decide +kernel
theorem dX6_map_2 : decode cX6_map 2 = .ok (.invokevirtual 132, 3) := by decide +kernel
theorem dX6_map_5 : decode cX6_map 5 = .ok (.ifCond .eq 11, 3) := by decide +kernel
theorem dX6_map_16 : decode cX6_map 16 = .ok (.bipush (-2), 2) := by decide +kernel
theorem dX6_map_18 : decode cX6_map 18 = .ok (.ireturn, 1) := by decide +kernel
theorem dX6_mapped_0 : decode cX6_mapped 0 = .ok (.aload_n 0, 1) := by decide +kernel
theorem dX6_mapped_1 : decode cX6_mapped 1 = .ok (.iload_n 1, 1) := by decide +kernel
theorem dX6_mapped_2 : decode cX6_mapped 2 = .ok (.invokevirtual 132, 3) := by decide +kernel
theorem dX6_mapped_5 : decode cX6_mapped 5 = .ok (.ifCond .eq 27, 3) := by decide +kernel
theorem dX6_mapped_32 : decode cX6_mapped 32 = .ok (.bipush (-2), 2) := by decide +kernel
theorem dX6_mapped_34 : decode cX6_mapped 34 = .ok (.ireturn, 1) := by decide +kernel
theorem dX6_root_0 : decode cX6_root 0 = .ok (.aload_n 0, 1) := by decide +kernel
theorem dX6_root_1 : decode cX6_root 1 = .ok (.iload_n 1, 1) := by decide +kernel
theorem dX6_root_2 : decode cX6_root 2 = .ok (.invokevirtual 132, 3) := by decide +kernel
theorem dX6_root_5 : decode cX6_root 5 = .ok (.ifCond .eq 17, 3) := by decide +kernel
theorem dX6_root_22 : decode cX6_root 22 = .ok (.bipush (-2), 2) := by decide +kernel
theorem dX6_root_24 : decode cX6_root 24 = .ok (.ireturn, 1) := by decide +kernel
theorem dX6_inverse_0 : decode cX6_inverse 0 = .ok (.aload_n 0, 1) := by decide +kernel
theorem dX6_inverse_1 : decode cX6_inverse 1 = .ok (.iload_n 1, 1) := by decide +kernel
theorem dX6_inverse_2 : decode cX6_inverse 2 = .ok (.invokevirtual 132, 3) := by decide +kernel
theorem dX6_inverse_5 : decode cX6_inverse 5 = .ok (.ifCond .ne 6, 3) := by decide +kernel
theorem dX6_inverse_8 : decode cX6_inverse 8 = .ok (.bipush (-2), 2) := by decide +kernel
theorem dX6_inverse_10 : decode cX6_inverse 10 = .ok (.ireturn, 1) := by decide +kernel
theorem dX6_power_0 : decode cX6_power 0 = .ok (.aload_n 0, 1) := by decide +kernel
theorem dX6_power_1 : decode cX6_power 1 = .ok (.iload_n 1, 1) := by decide +kernel
theorem dX6_power_2 : decode cX6_power 2 = .ok (.invokevirtual 132, 3) := by decide +kernel
theorem dX6_power_5 : decode cX6_power 5 = .ok (.ifCond .eq 23, 3) := by decide +kernel
theorem dX6_power_28 : decode cX6_power 28 = .ok (.bipush (-2), 2) := by decide +kernel
theorem dX6_power_30 : decode cX6_power 30 = .ok (.ireturn, 1) := by decide +kernel
theorem dX6_generator_0 : decode cX6_generator 0 = .ok (.aload_n 0, 1) := by decide +kernel
theorem dX6_generator_1 : decode cX6_generator 1 = .ok (.iload_n 1, 1) := by decide +kernel
theorem dX6_generator_2 : decode cX6_generator 2 = .ok (.invokevirtual 132, 3) := by decide +kernel
theorem dX6_generator_5 : decode cX6_generator 5 = .ok (.ifCond .ne 6, 3) := by decide +kernel
theorem dX6_generator_8 : decode cX6_generator 8 = .ok (.bipush (-2), 2) := by decide +kernel
theorem dX6_generator_10 : decode cX6_generator 10 = .ok (.ireturn, 1) := by decide +kernel
theorem dX6_point_0 : decode cX6_point 0 = .ok (.aload_n 0, 1) := by decide +kernel
theorem dX6_point_1 : decode cX6_point 1 = .ok (.iload_n 1, 1) := by decide +kernel
theorem dX6_point_2 : decode cX6_point 2 = .ok (.invokevirtual 132, 3) := by decide +kernel
theorem dX6_point_5 : decode cX6_point 5 = .ok (.ifCond .eq 35, 3) := by decide +kernel
theorem dX6_point_40 : decode cX6_point 40 = .ok (.bipush (-2), 2) := by decide +kernel
theorem dX6_point_42 : decode cX6_point 42 = .ok (.ireturn, 1) := by decide +kernel
theorem dX6_lift_0 : decode cX6_lift 0 = .ok (.aload_n 0, 1) := by decide +kernel
theorem dX6_lift_1 : decode cX6_lift 1 = .ok (.iload_n 1, 1) := by decide +kernel
theorem dX6_lift_2 : decode cX6_lift 2 = .ok (.invokevirtual 132, 3) := by decide +kernel
theorem dX6_lift_5 : decode cX6_lift 5 = .ok (.ifCond .eq 19, 3) := by decide +kernel
theorem dX6_lift_24 : decode cX6_lift 24 = .ok (.bipush (-2), 2) := by decide +kernel
theorem dX6_lift_26 : decode cX6_lift 26 = .ok (.ireturn, 1) := by decide +kernel
theorem dX6_near_0 : decode cX6_near 0 = .ok (.aload_n 0, 1) := by decide +kernel
theorem dX6_near_1 : decode cX6_near 1 = .ok (.iload_n 1, 1) := by decide +kernel
theorem dX6_near_2 : decode cX6_near 2 = .ok (.invokevirtual 132, 3) := by decide +kernel
theorem dX6_near_5 : decode cX6_near 5 = .ok (.ifCond .ne 6, 3) := by decide +kernel
theorem dX6_near_8 : decode cX6_near 8 = .ok (.bipush (-2), 2) := by decide +kernel
theorem dX6_near_10 : decode cX6_near 10 = .ok (.ireturn, 1) := by decide +kernel
theorem dX6_nth_0 : decode cX6_nth 0 = .ok (.aload_n 0, 1) := by decide +kernel
theorem dX6_nth_1 : decode cX6_nth 1 = .ok (.iload_n 1, 1) := by decide +kernel
theorem dX6_nth_2 : decode cX6_nth 2 = .ok (.invokevirtual 132, 3) := by decide +kernel
theorem dX6_nth_5 : decode cX6_nth 5 = .ok (.ifCond .ne 6, 3) := by decide +kernel
theorem dX6_nth_8 : decode cX6_nth 8 = .ok (.bipush (-2), 2) := by decide +kernel
theorem dX6_nth_10 : decode cX6_nth 10 = .ok (.ireturn, 1) := by decide +kernel
theorem dX6_rank_0 : decode cX6_rank 0 = .ok (.aload_n 0, 1) := by decide +kernel
theorem dX6_rank_1 : decode cX6_rank 1 = .ok (.iload_n 1, 1) := by decide +kernel
theorem dX6_rank_2 : decode cX6_rank 2 = .ok (.invokevirtual 132, 3) := by decide +kernel
theorem dX6_rank_5 : decode cX6_rank 5 = .ok (.ifCond .eq 11, 3) := by decide +kernel
theorem dX6_rank_16 : decode cX6_rank 16 = .ok (.bipush (-2), 2) := by decide +kernel
theorem dX6_rank_18 : decode cX6_rank 18 = .ok (.ireturn, 1) := by decide +kernel
theorem dX6_add_0 : decode cX6_add 0 = .ok (.aload_n 0, 1) := by decide +kernel
theorem dX6_add_1 : decode cX6_add 1 = .ok (.iload_n 1, 1) := by decide +kernel
theorem dX6_add_2 : decode cX6_add 2 = .ok (.invokevirtual 132, 3) := by decide +kernel
theorem dX6_add_5 : decode cX6_add 5 = .ok (.ifCond .eq 28, 3) := by decide +kernel
theorem dX6_add_33 : decode cX6_add 33 = .ok (.bipush (-2), 2) := by decide +kernel
theorem dX6_add_35 : decode cX6_add 35 = .ok (.ireturn, 1) := by decide +kernel
theorem dX6_negative_0 : decode cX6_negative 0 = .ok (.aload_n 0, 1) := by decide +kernel
theorem dX6_negative_1 : decode cX6_negative 1 = .ok (.iload_n 1, 1) := by decide +kernel
theorem dX6_negative_2 : decode cX6_negative 2 = .ok (.invokevirtual 132, 3) := by decide +kernel
theorem dX6_negative_5 : decode cX6_negative 5 = .ok (.ifCond .eq 19, 3) := by decide +kernel
theorem dX6_negative_24 : decode cX6_negative 24 = .ok (.bipush (-2), 2) := by decide +kernel
theorem dX6_negative_26 : decode cX6_negative 26 = .ok (.ireturn, 1) := by decide +kernel
theorem dX6_times_0 : decode cX6_times 0 = .ok (.aload_n 0, 1) := by decide +kernel
theorem dX6_times_1 : decode cX6_times 1 = .ok (.iload_n 1, 1) := by decide +kernel
theorem dX6_times_2 : decode cX6_times 2 = .ok (.invokevirtual 132, 3) := by decide +kernel
theorem dX6_times_5 : decode cX6_times 5 = .ok (.ifCond .eq 20, 3) := by decide +kernel
theorem dX6_times_25 : decode cX6_times 25 = .ok (.bipush (-2), 2) := by decide +kernel
theorem dX6_times_27 : decode cX6_times 27 = .ok (.ireturn, 1) := by decide +kernel
theorem dX6_alone_0 : decode cX6_alone 0 = .ok (.aload_n 0, 1) := by decide +kernel
theorem dX6_alone_1 : decode cX6_alone 1 = .ok (.iload_n 1, 1) := by decide +kernel
theorem dX6_alone_2 : decode cX6_alone 2 = .ok (.invokevirtual 132, 3) := by decide +kernel
theorem dX6_alone_5 : decode cX6_alone 5 = .ok (.ifCond .eq 19, 3) := by decide +kernel
theorem dX6_alone_24 : decode cX6_alone 24 = .ok (.bipush (-2), 2) := by decide +kernel
theorem dX6_alone_26 : decode cX6_alone 26 = .ok (.ireturn, 1) := by decide +kernel
theorem dX6_count_0 : decode cX6_count 0 = .ok (.aload_n 0, 1) := by decide +kernel
theorem dX6_count_1 : decode cX6_count 1 = .ok (.iload_n 1, 1) := by decide +kernel
theorem dX6_count_2 : decode cX6_count 2 = .ok (.invokevirtual 132, 3) := by decide +kernel
theorem dX6_count_5 : decode cX6_count 5 = .ok (.ifCond .ne 6, 3) := by decide +kernel
theorem dX6_count_8 : decode cX6_count 8 = .ok (.bipush (-2), 2) := by decide +kernel
theorem dX6_count_10 : decode cX6_count 10 = .ok (.ireturn, 1) := by decide +kernel
theorem dX6_countOver_0 : decode cX6_countOver 0 = .ok (.aload_n 0, 1) := by decide +kernel
theorem dX6_countOver_1 : decode cX6_countOver 1 = .ok (.iload_n 1, 1) := by decide +kernel
theorem dX6_countOver_2 : decode cX6_countOver 2 = .ok (.invokevirtual 132, 3) := by decide +kernel
theorem dX6_countOver_5 : decode cX6_countOver 5 = .ok (.ifCond .eq 15, 3) := by decide +kernel
theorem dX6_countOver_20 : decode cX6_countOver 20 = .ok (.ldc2_w 154, 3) := by decide +kernel
theorem dX6_countOver_23 : decode cX6_countOver 23 = .ok (.lreturn, 1) := by decide +kernel
theorem dX6_bound_0 : decode cX6_bound 0 = .ok (.aload_n 0, 1) := by decide +kernel
theorem dX6_bound_1 : decode cX6_bound 1 = .ok (.iload_n 1, 1) := by decide +kernel
theorem dX6_bound_2 : decode cX6_bound 2 = .ok (.invokevirtual 132, 3) := by decide +kernel
theorem dX6_bound_5 : decode cX6_bound 5 = .ok (.ifCond .eq 13, 3) := by decide +kernel
theorem dX6_bound_18 : decode cX6_bound 18 = .ok (.bipush (-2), 2) := by decide +kernel
theorem dX6_bound_20 : decode cX6_bound 20 = .ok (.ireturn, 1) := by decide +kernel
theorem dX6_proof_0 : decode cX6_proof 0 = .ok (.aload_n 0, 1) := by decide +kernel
theorem dX6_proof_1 : decode cX6_proof 1 = .ok (.iload_n 1, 1) := by decide +kernel
theorem dX6_proof_2 : decode cX6_proof 2 = .ok (.invokevirtual 132, 3) := by decide +kernel
theorem dX6_proof_5 : decode cX6_proof 5 = .ok (.ifCond .eq 13, 3) := by decide +kernel
theorem dX6_proof_18 : decode cX6_proof 18 = .ok (.bipush (-2), 2) := by decide +kernel
theorem dX6_proof_20 : decode cX6_proof 20 = .ok (.ireturn, 1) := by decide +kernel
theorem dX6_supersingular_0 : decode cX6_supersingular 0 = .ok (.aload_n 0, 1) := by decide +kernel
theorem dX6_supersingular_1 : decode cX6_supersingular 1 = .ok (.iload_n 1, 1) := by decide +kernel
theorem dX6_supersingular_2 : decode cX6_supersingular 2 = .ok (.invokevirtual 132, 3) := by decide +kernel
theorem dX6_supersingular_5 : decode cX6_supersingular 5 = .ok (.ifCond .ne 6, 3) := by decide +kernel
theorem dX6_supersingular_8 : decode cX6_supersingular 8 = .ok (.bipush (-2), 2) := by decide +kernel
theorem dX6_supersingular_10 : decode cX6_supersingular 10 = .ok (.ireturn, 1) := by decide +kernel
theorem dX6_order_0 : decode cX6_order 0 = .ok (.aload_n 0, 1) := by decide +kernel
theorem dX6_order_1 : decode cX6_order 1 = .ok (.iload_n 1, 1) := by decide +kernel
theorem dX6_order_2 : decode cX6_order 2 = .ok (.invokevirtual 132, 3) := by decide +kernel
theorem dX6_order_5 : decode cX6_order 5 = .ok (.ifCond .eq 19, 3) := by decide +kernel
theorem dX6_order_24 : decode cX6_order 24 = .ok (.bipush (-2), 2) := by decide +kernel
theorem dX6_order_26 : decode cX6_order 26 = .ok (.ireturn, 1) := by decide +kernel
theorem dX6_ofOrder_0 : decode cX6_ofOrder 0 = .ok (.aload_n 0, 1) := by decide +kernel
theorem dX6_ofOrder_1 : decode cX6_ofOrder 1 = .ok (.iload_n 1, 1) := by decide +kernel
theorem dX6_ofOrder_2 : decode cX6_ofOrder 2 = .ok (.invokevirtual 132, 3) := by decide +kernel
theorem dX6_ofOrder_5 : decode cX6_ofOrder 5 = .ok (.ifCond .eq 8, 3) := by decide +kernel
theorem dX6_ofOrder_13 : decode cX6_ofOrder 13 = .ok (.bipush (-2), 2) := by decide +kernel
theorem dX6_ofOrder_15 : decode cX6_ofOrder 15 = .ok (.ireturn, 1) := by decide +kernel
theorem dX6_torsion_0 : decode cX6_torsion 0 = .ok (.aload_n 0, 1) := by decide +kernel
theorem dX6_torsion_1 : decode cX6_torsion 1 = .ok (.iload_n 1, 1) := by decide +kernel
theorem dX6_torsion_2 : decode cX6_torsion 2 = .ok (.invokevirtual 132, 3) := by decide +kernel
theorem dX6_torsion_5 : decode cX6_torsion 5 = .ok (.ifCond .eq 8, 3) := by decide +kernel
theorem dX6_torsion_13 : decode cX6_torsion 13 = .ok (.bipush (-2), 2) := by decide +kernel
theorem dX6_torsion_15 : decode cX6_torsion 15 = .ok (.ireturn, 1) := by decide +kernel
theorem dX6_made_0 : decode cX6_made 0 = .ok (.aload_n 0, 1) := by decide +kernel
theorem dX6_made_1 : decode cX6_made 1 = .ok (.iload_n 1, 1) := by decide +kernel
theorem dX6_made_2 : decode cX6_made 2 = .ok (.invokevirtual 132, 3) := by decide +kernel
theorem dX6_made_5 : decode cX6_made 5 = .ok (.ifCond .eq 15, 3) := by decide +kernel
theorem dX6_made_20 : decode cX6_made 20 = .ok (.bipush (-2), 2) := by decide +kernel
theorem dX6_made_22 : decode cX6_made 22 = .ok (.ireturn, 1) := by decide +kernel
theorem dX6_halves_0 : decode cX6_halves 0 = .ok (.aload_n 0, 1) := by decide +kernel
theorem dX6_halves_1 : decode cX6_halves 1 = .ok (.iload_n 1, 1) := by decide +kernel
theorem dX6_halves_2 : decode cX6_halves 2 = .ok (.invokevirtual 132, 3) := by decide +kernel
theorem dX6_halves_5 : decode cX6_halves 5 = .ok (.ifCond .eq 11, 3) := by decide +kernel
theorem dX6_halves_16 : decode cX6_halves 16 = .ok (.bipush (-2), 2) := by decide +kernel
theorem dX6_halves_18 : decode cX6_halves 18 = .ok (.ireturn, 1) := by decide +kernel
theorem dX6_half_0 : decode cX6_half 0 = .ok (.aload_n 0, 1) := by decide +kernel
theorem dX6_half_1 : decode cX6_half 1 = .ok (.iload_n 1, 1) := by decide +kernel
theorem dX6_half_2 : decode cX6_half 2 = .ok (.invokevirtual 132, 3) := by decide +kernel
theorem dX6_half_5 : decode cX6_half 5 = .ok (.ifCond .eq 11, 3) := by decide +kernel
theorem dX6_half_16 : decode cX6_half 16 = .ok (.bipush (-2), 2) := by decide +kernel
theorem dX6_half_18 : decode cX6_half 18 = .ok (.ireturn, 1) := by decide +kernel
theorem dX6_log_0 : decode cX6_log 0 = .ok (.aload_n 0, 1) := by decide +kernel
theorem dX6_log_1 : decode cX6_log 1 = .ok (.iload_n 1, 1) := by decide +kernel
theorem dX6_log_2 : decode cX6_log 2 = .ok (.invokevirtual 132, 3) := by decide +kernel
theorem dX6_log_5 : decode cX6_log 5 = .ok (.ifCond .eq 19, 3) := by decide +kernel
theorem dX6_log_24 : decode cX6_log 24 = .ok (.bipush (-2), 2) := by decide +kernel
theorem dX6_log_26 : decode cX6_log 26 = .ok (.ireturn, 1) := by decide +kernel
theorem dX6_embedding_0 : decode cX6_embedding 0 = .ok (.aload_n 0, 1) := by decide +kernel
theorem dX6_embedding_1 : decode cX6_embedding 1 = .ok (.iload_n 1, 1) := by decide +kernel
theorem dX6_embedding_2 : decode cX6_embedding 2 = .ok (.invokevirtual 132, 3) := by decide +kernel
theorem dX6_embedding_5 : decode cX6_embedding 5 = .ok (.ifCond .eq 17, 3) := by decide +kernel
theorem dX6_embedding_22 : decode cX6_embedding 22 = .ok (.bipush (-2), 2) := by decide +kernel
theorem dX6_embedding_24 : decode cX6_embedding 24 = .ok (.ireturn, 1) := by decide +kernel
theorem dX6_quotient_0 : decode cX6_quotient 0 = .ok (.aload_n 0, 1) := by decide +kernel
theorem dX6_quotient_1 : decode cX6_quotient 1 = .ok (.iload_n 1, 1) := by decide +kernel
theorem dX6_quotient_2 : decode cX6_quotient 2 = .ok (.invokevirtual 132, 3) := by decide +kernel
theorem dX6_quotient_5 : decode cX6_quotient 5 = .ok (.ifCond .eq 11, 3) := by decide +kernel
theorem dX6_quotient_16 : decode cX6_quotient 16 = .ok (.bipush (-2), 2) := by decide +kernel
theorem dX6_quotient_18 : decode cX6_quotient 18 = .ok (.ireturn, 1) := by decide +kernel
theorem dX6_image_0 : decode cX6_image 0 = .ok (.iload_n 1, 1) := by decide +kernel
theorem dX6_image_1 : decode cX6_image 1 = .ok (.i2l, 1) := by decide +kernel
theorem dX6_image_2 : decode cX6_image 2 = .ok (.lconst 0, 1) := by decide +kernel
theorem dX6_image_3 : decode cX6_image 3 = .ok (.aload_n 0, 1) := by decide +kernel
theorem dX6_image_4 : decode cX6_image 4 = .ok (.getfield 112, 3) := by decide +kernel
theorem dX6_image_7 : decode cX6_image 7 = .ok (.iconst 1, 1) := by decide +kernel
theorem dX6_image_8 : decode cX6_image 8 = .ok (.isub, 1) := by decide +kernel
theorem dX6_image_9 : decode cX6_image 9 = .ok (.i2l, 1) := by decide +kernel
theorem dX6_image_10 : decode cX6_image 10 = .ok (.invokestatic 100, 3) := by decide +kernel
theorem dX6_image_13 : decode cX6_image 13 = .ok (.ifCond .eq 34, 3) := by decide +kernel
theorem dX6_image_47 : decode cX6_image 47 = .ok (.bipush (-2), 2) := by decide +kernel
theorem dX6_image_49 : decode cX6_image 49 = .ok (.ireturn, 1) := by decide +kernel
theorem dX6_kernel_0 : decode cX6_kernel 0 = .ok (.iload_n 1, 1) := by decide +kernel
theorem dX6_kernel_1 : decode cX6_kernel 1 = .ok (.i2l, 1) := by decide +kernel
theorem dX6_kernel_2 : decode cX6_kernel 2 = .ok (.lconst 0, 1) := by decide +kernel
theorem dX6_kernel_3 : decode cX6_kernel 3 = .ok (.aload_n 0, 1) := by decide +kernel
theorem dX6_kernel_4 : decode cX6_kernel 4 = .ok (.getfield 112, 3) := by decide +kernel
theorem dX6_kernel_7 : decode cX6_kernel 7 = .ok (.iconst 1, 1) := by decide +kernel
theorem dX6_kernel_8 : decode cX6_kernel 8 = .ok (.isub, 1) := by decide +kernel
theorem dX6_kernel_9 : decode cX6_kernel 9 = .ok (.i2l, 1) := by decide +kernel
theorem dX6_kernel_10 : decode cX6_kernel 10 = .ok (.invokestatic 100, 3) := by decide +kernel
theorem dX6_kernel_13 : decode cX6_kernel 13 = .ok (.ifCond .eq 25, 3) := by decide +kernel
theorem dX6_kernel_38 : decode cX6_kernel 38 = .ok (.bipush (-2), 2) := by decide +kernel
theorem dX6_kernel_40 : decode cX6_kernel 40 = .ok (.ireturn, 1) := by decide +kernel
theorem dX6_sign_0 : decode cX6_sign 0 = .ok (.aload_n 0, 1) := by decide +kernel
theorem dX6_sign_1 : decode cX6_sign 1 = .ok (.iload_n 1, 1) := by decide +kernel
theorem dX6_sign_2 : decode cX6_sign 2 = .ok (.invokevirtual 132, 3) := by decide +kernel
theorem dX6_sign_5 : decode cX6_sign 5 = .ok (.ifCond .eq 27, 3) := by decide +kernel
theorem dX6_sign_32 : decode cX6_sign 32 = .ok (.bipush (-2), 2) := by decide +kernel
theorem dX6_sign_34 : decode cX6_sign 34 = .ok (.ireturn, 1) := by decide +kernel
theorem dX6_good_0 : decode cX6_good 0 = .ok (.aload_n 0, 1) := by decide +kernel
theorem dX6_good_1 : decode cX6_good 1 = .ok (.iload_n 1, 1) := by decide +kernel
theorem dX6_good_2 : decode cX6_good 2 = .ok (.invokevirtual 132, 3) := by decide +kernel
theorem dX6_good_5 : decode cX6_good 5 = .ok (.ifCond .eq 24, 3) := by decide +kernel
theorem dX6_good_29 : decode cX6_good 29 = .ok (.bipush (-2), 2) := by decide +kernel
theorem dX6_good_31 : decode cX6_good 31 = .ok (.ireturn, 1) := by decide +kernel
set_option maxRecDepth 20000 in
theorem ggX6_all_X6_in : GoodIn wsX6_all wsX6_in := goodIn_r _ [8] (by decide +kernel) (by decide +kernel)
set_option maxRecDepth 20000 in
theorem gX6_all_X6_in : GoodIn wsX6_all (va_wsS RX6 100 yX6_in wsX6_in) := goodIn_app (goodIn_of _ (by decide +kernel)) ggX6_all_X6_in
set_option maxRecDepth 20000 in
theorem ggX6_all_X6_isPrime : GoodIn wsX6_all wsX6_isPrime := goodIn_r _ [11] (by decide +kernel) (by decide +kernel)
set_option maxRecDepth 20000 in
theorem gX6_all_X6_isPrime : GoodIn wsX6_all (va_wsS RX6 104 yX6_isPrime wsX6_isPrime) := goodIn_app (goodIn_of _ (by decide +kernel)) ggX6_all_X6_isPrime
set_option maxRecDepth 20000 in
theorem ggX6_all_X6_takePrime : GoodIn wsX6_all wsX6_takePrime := goodIn_r _ [15, 16, 17, 18, 19, 4, 49, 50, 51, 52, 53, 54, 55, 56, 57, 58, 59, 60, 61, 62, 63, 64, 65, 66] (by decide +kernel) (by decide +kernel)
set_option maxRecDepth 20000 in
theorem gX6_all_X6_takePrime : GoodIn wsX6_all (wsV RX6 71 RX6 yX6_takePrime wsX6_takePrime) := goodIn_app (goodIn_of _ (by decide +kernel)) ggX6_all_X6_takePrime
set_option maxRecDepth 20000 in
theorem ggX6_all_X6_take : GoodIn wsX6_all wsX6_take := goodIn_r _ [23, 24, 25, 18, 12, 13, 14, 7, 15, 16, 17, 19, 4, 49, 50, 51, 52, 53, 54, 55, 56, 57, 58, 59, 60, 61, 62, 63, 64, 65, 66] (by decide +kernel) (by decide +kernel)
set_option maxRecDepth 20000 in
theorem gX6_all_X6_take : GoodIn wsX6_all (wsV RX6 118 RX6 yX6_take wsX6_take) := goodIn_app (goodIn_of _ (by decide +kernel)) ggX6_all_X6_take
set_option maxRecDepth 20000 in
theorem ggX6_all_X6_split : GoodIn wsX6_all wsX6_split := goodIn_r _ [29, 30, 24, 31, 25, 32, 33, 34, 7, 35, 16, 36, 37, 38, 39, 49, 50, 51, 52, 53, 54, 55, 56, 57, 58, 59, 60, 61, 62, 63, 64, 65, 66] (by decide +kernel) (by decide +kernel)
set_option maxRecDepth 20000 in
theorem gX6_all_X6_split : GoodIn wsX6_all (wsV RX6 122 RX6 yX6_split wsX6_split) := goodIn_app (goodIn_of _ (by decide +kernel)) ggX6_all_X6_split
set_option maxRecDepth 20000 in
theorem ggX6_all_X6_right : GoodIn wsX6_all wsX6_right := goodIn_r _ [43, 24, 25, 32, 33, 34, 7, 35, 16, 36, 37, 38, 39, 49, 50, 51, 52, 53, 54, 55, 56, 57, 58, 59, 60, 61, 62, 63, 64, 65, 66] (by decide +kernel) (by decide +kernel)
set_option maxRecDepth 20000 in
theorem gX6_all_X6_right : GoodIn wsX6_all (wsV RX6 75 RX6 yX6_right wsX6_right) := goodIn_app (goodIn_of _ (by decide +kernel)) ggX6_all_X6_right
set_option maxRecDepth 20000 in
theorem ggX6_all_X6_jOf : GoodIn wsX6_all wsX6_jOf := goodIn_r _ [47, 24, 48, 19, 32, 33, 34, 7, 35, 16, 36, 37, 38, 39, 26, 27, 28, 29, 30, 31, 25, 49, 50, 51, 52, 53, 54, 55, 56, 57, 58, 59, 60, 61, 62, 63, 64, 65, 66] (by decide +kernel) (by decide +kernel)
set_option maxRecDepth 20000 in
theorem gX6_all_X6_jOf : GoodIn wsX6_all (wsV RX6 135 RX6 yX6_jOf wsX6_jOf) := goodIn_app (goodIn_of _ (by decide +kernel)) ggX6_all_X6_jOf
theorem dX6_all_0 : decode cX6_all 0 = .ok (.iload_n 1, 1) := by decide +kernel
theorem dX6_all_1 : decode cX6_all 1 = .ok (.i2l, 1) := by decide +kernel
theorem dX6_all_2 : decode cX6_all 2 = .ok (.ldc2_w 96, 3) := by decide +kernel
theorem dX6_all_5 : decode cX6_all 5 = .ok (.ldc2_w 182, 3) := by decide +kernel
theorem dX6_all_8 : decode cX6_all 8 = .ok (.invokestatic 100, 3) := by decide +kernel
theorem dX6_all_11 : decode cX6_all 11 = .ok (.ifCond .eq 10, 3) := by decide +kernel
theorem dX6_all_14 : decode cX6_all 14 = .ok (.iload_n 1, 1) := by decide +kernel
theorem dX6_all_15 : decode cX6_all 15 = .ok (.invokestatic 104, 3) := by decide +kernel
theorem dX6_all_18 : decode cX6_all 18 = .ok (.ifCond .ne 6, 3) := by decide +kernel
theorem dX6_all_21 : decode cX6_all 21 = .ok (.bipush (-2), 2) := by decide +kernel
theorem dX6_all_23 : decode cX6_all 23 = .ok (.ireturn, 1) := by decide +kernel
theorem dX6_all_24 : decode cX6_all 24 = .ok (.aload_n 0, 1) := by decide +kernel
theorem dX6_all_25 : decode cX6_all 25 = .ok (.iload_n 1, 1) := by decide +kernel
theorem dX6_all_26 : decode cX6_all 26 = .ok (.invokevirtual 71, 3) := by decide +kernel
theorem dX6_all_29 : decode cX6_all 29 = .ok (.iconst 0, 1) := by decide +kernel
theorem dX6_all_30 : decode cX6_all 30 = .ok (.istore 4, 2) := by decide +kernel
theorem dX6_all_32 : decode cX6_all 32 = .ok (.iload 4, 2) := by decide +kernel
theorem dX6_all_34 : decode cX6_all 34 = .ok (.iload_n 1, 1) := by decide +kernel
theorem dX6_all_35 : decode cX6_all 35 = .ok (.if_icmp .ge 17, 3) := by decide +kernel
theorem dX6_all_38 : decode cX6_all 38 = .ok (.aload_n 0, 1) := by decide +kernel
theorem dX6_all_39 : decode cX6_all 39 = .ok (.getfield 44, 3) := by decide +kernel
theorem dX6_all_42 : decode cX6_all 42 = .ok (.iload 4, 2) := by decide +kernel
theorem dX6_all_44 : decode cX6_all 44 = .ok (.iconst 0, 1) := by decide +kernel
theorem dX6_all_45 : decode cX6_all 45 = .ok (.bastore, 1) := by decide +kernel
theorem dX6_all_46 : decode cX6_all 46 = .ok (.iinc 4 1, 3) := by decide +kernel
theorem dX6_all_49 : decode cX6_all 49 = .ok (.goto (-17), 3) := by decide +kernel
theorem dX6_all_52 : decode cX6_all 52 = .ok (.iconst 0, 1) := by decide +kernel
theorem dX6_all_53 : decode cX6_all 53 = .ok (.istore 4, 2) := by decide +kernel
theorem dX6_all_55 : decode cX6_all 55 = .ok (.iconst 0, 1) := by decide +kernel
theorem dX6_all_56 : decode cX6_all 56 = .ok (.istore 5, 2) := by decide +kernel
theorem dX6_all_58 : decode cX6_all 58 = .ok (.iload 5, 2) := by decide +kernel
theorem dX6_all_60 : decode cX6_all 60 = .ok (.iload_n 1, 1) := by decide +kernel
theorem dX6_all_61 : decode cX6_all 61 = .ok (.if_icmp .ge 140, 3) := by decide +kernel
theorem dX6_all_64 : decode cX6_all 64 = .ok (.iconst 0, 1) := by decide +kernel
theorem dX6_all_65 : decode cX6_all 65 = .ok (.istore 6, 2) := by decide +kernel
theorem dX6_all_67 : decode cX6_all 67 = .ok (.iload 6, 2) := by decide +kernel
theorem dX6_all_69 : decode cX6_all 69 = .ok (.iload_n 1, 1) := by decide +kernel
theorem dX6_all_70 : decode cX6_all 70 = .ok (.if_icmp .ge 125, 3) := by decide +kernel
theorem dX6_all_73 : decode cX6_all 73 = .ok (.aload_n 0, 1) := by decide +kernel
theorem dX6_all_74 : decode cX6_all 74 = .ok (.iload_n 1, 1) := by decide +kernel
theorem dX6_all_75 : decode cX6_all 75 = .ok (.iload 5, 2) := by decide +kernel
theorem dX6_all_77 : decode cX6_all 77 = .ok (.iload 6, 2) := by decide +kernel
theorem dX6_all_79 : decode cX6_all 79 = .ok (.invokevirtual 118, 3) := by decide +kernel
theorem dX6_all_82 : decode cX6_all 82 = .ok (.aload_n 0, 1) := by decide +kernel
theorem dX6_all_83 : decode cX6_all 83 = .ok (.invokevirtual 122, 3) := by decide +kernel
theorem dX6_all_86 : decode cX6_all 86 = .ok (.ifCond .eq 103, 3) := by decide +kernel
theorem dX6_all_89 : decode cX6_all 89 = .ok (.iconst 1, 1) := by decide +kernel
theorem dX6_all_90 : decode cX6_all 90 = .ok (.istore 7, 2) := by decide +kernel
theorem dX6_all_92 : decode cX6_all 92 = .ok (.iconst 0, 1) := by decide +kernel
theorem dX6_all_93 : decode cX6_all 93 = .ok (.istore 8, 2) := by decide +kernel
theorem dX6_all_95 : decode cX6_all 95 = .ok (.iload 8, 2) := by decide +kernel
theorem dX6_all_97 : decode cX6_all 97 = .ok (.iload_n 1, 1) := by decide +kernel
theorem dX6_all_98 : decode cX6_all 98 = .ok (.if_icmp .ge 47, 3) := by decide +kernel
theorem dX6_all_101 : decode cX6_all 101 = .ok (.aload_n 0, 1) := by decide +kernel
theorem dX6_all_102 : decode cX6_all 102 = .ok (.getfield 13, 3) := by decide +kernel
theorem dX6_all_105 : decode cX6_all 105 = .ok (.aload_n 0, 1) := by decide +kernel
theorem dX6_all_106 : decode cX6_all 106 = .ok (.iload 8, 2) := by decide +kernel
theorem dX6_all_108 : decode cX6_all 108 = .ok (.invokevirtual 75, 3) := by decide +kernel
theorem dX6_all_111 : decode cX6_all 111 = .ok (.iaload, 1) := by decide +kernel
theorem dX6_all_112 : decode cX6_all 112 = .ok (.istore 9, 2) := by decide +kernel
theorem dX6_all_114 : decode cX6_all 114 = .ok (.iload 7, 2) := by decide +kernel
theorem dX6_all_116 : decode cX6_all 116 = .ok (.iload 9, 2) := by decide +kernel
theorem dX6_all_118 : decode cX6_all 118 = .ok (.iconst (-1), 1) := by decide +kernel
theorem dX6_all_119 : decode cX6_all 119 = .ok (.if_icmp .ne 7, 3) := by decide +kernel
theorem dX6_all_122 : decode cX6_all 122 = .ok (.iconst 0, 1) := by decide +kernel
theorem dX6_all_123 : decode cX6_all 123 = .ok (.goto 13, 3) := by decide +kernel
theorem dX6_all_126 : decode cX6_all 126 = .ok (.iload 9, 2) := by decide +kernel
theorem dX6_all_128 : decode cX6_all 128 = .ok (.ifCond .ne 7, 3) := by decide +kernel
theorem dX6_all_131 : decode cX6_all 131 = .ok (.iconst 1, 1) := by decide +kernel
theorem dX6_all_132 : decode cX6_all 132 = .ok (.goto 4, 3) := by decide +kernel
theorem dX6_all_135 : decode cX6_all 135 = .ok (.iconst 2, 1) := by decide +kernel
theorem dX6_all_136 : decode cX6_all 136 = .ok (.iadd, 1) := by decide +kernel
theorem dX6_all_137 : decode cX6_all 137 = .ok (.istore 7, 2) := by decide +kernel
theorem dX6_all_139 : decode cX6_all 139 = .ok (.iinc 8 1, 3) := by decide +kernel
theorem dX6_all_142 : decode cX6_all 142 = .ok (.goto (-47), 3) := by decide +kernel
theorem dX6_all_145 : decode cX6_all 145 = .ok (.iload 7, 2) := by decide +kernel
theorem dX6_all_147 : decode cX6_all 147 = .ok (.iload_n 2, 1) := by decide +kernel
theorem dX6_all_148 : decode cX6_all 148 = .ok (.if_icmp .ne 41, 3) := by decide +kernel
theorem dX6_all_151 : decode cX6_all 151 = .ok (.aload_n 0, 1) := by decide +kernel
theorem dX6_all_152 : decode cX6_all 152 = .ok (.invokevirtual 135, 3) := by decide +kernel
theorem dX6_all_155 : decode cX6_all 155 = .ok (.istore 8, 2) := by decide +kernel
theorem dX6_all_157 : decode cX6_all 157 = .ok (.iload 4, 2) := by decide +kernel
theorem dX6_all_159 : decode cX6_all 159 = .ok (.iload_n 3, 1) := by decide +kernel
theorem dX6_all_160 : decode cX6_all 160 = .ok (.ifCond .eq 17, 3) := by decide +kernel
theorem dX6_all_163 : decode cX6_all 163 = .ok (.aload_n 0, 1) := by decide +kernel
theorem dX6_all_164 : decode cX6_all 164 = .ok (.getfield 44, 3) := by decide +kernel
theorem dX6_all_167 : decode cX6_all 167 = .ok (.iload 8, 2) := by decide +kernel
theorem dX6_all_169 : decode cX6_all 169 = .ok (.baload, 1) := by decide +kernel
theorem dX6_all_170 : decode cX6_all 170 = .ok (.ifCond .eq 7, 3) := by decide +kernel
theorem dX6_all_173 : decode cX6_all 173 = .ok (.iconst 0, 1) := by decide +kernel
theorem dX6_all_174 : decode cX6_all 174 = .ok (.goto 4, 3) := by decide +kernel
theorem dX6_all_177 : decode cX6_all 177 = .ok (.iconst 1, 1) := by decide +kernel
theorem dX6_all_178 : decode cX6_all 178 = .ok (.iadd, 1) := by decide +kernel
theorem dX6_all_179 : decode cX6_all 179 = .ok (.istore 4, 2) := by decide +kernel
theorem dX6_all_181 : decode cX6_all 181 = .ok (.aload_n 0, 1) := by decide +kernel
theorem dX6_all_182 : decode cX6_all 182 = .ok (.getfield 44, 3) := by decide +kernel
theorem dX6_all_185 : decode cX6_all 185 = .ok (.iload 8, 2) := by decide +kernel
theorem dX6_all_187 : decode cX6_all 187 = .ok (.iconst 1, 1) := by decide +kernel
theorem dX6_all_188 : decode cX6_all 188 = .ok (.bastore, 1) := by decide +kernel
theorem dX6_all_189 : decode cX6_all 189 = .ok (.iinc 6 1, 3) := by decide +kernel
theorem dX6_all_192 : decode cX6_all 192 = .ok (.goto (-125), 3) := by decide +kernel
theorem dX6_all_195 : decode cX6_all 195 = .ok (.iinc 5 1, 3) := by decide +kernel
theorem dX6_all_198 : decode cX6_all 198 = .ok (.goto (-140), 3) := by decide +kernel
theorem dX6_all_201 : decode cX6_all 201 = .ok (.iload 4, 2) := by decide +kernel
theorem dX6_all_203 : decode cX6_all 203 = .ok (.ireturn, 1) := by decide +kernel
set_option maxRecDepth 20000 in
theorem ggX6_census_X6_all : GoodIn wsX6_census wsX6_all := goodIn_r _ [5, 6, 7, 8, 9, 10, 11, 4, 12, 13, 14, 15, 16, 17, 18, 19, 20, 21, 22, 23, 24, 25, 26, 27, 28, 29, 30, 31, 32, 33, 34, 35, 36, 37, 38, 39, 40, 41, 42, 43, 44, 45, 46, 47, 48, 49, 50, 51, 52, 53, 54, 55, 56, 57, 58, 59, 60, 61, 62, 63, 64, 65, 66, 67, 68, 69, 70] (by decide +kernel) (by decide +kernel)
set_option maxRecDepth 20000 in
theorem gX6_census_X6_all : GoodIn wsX6_census (wsV RX6 184 RX6 yX6_all wsX6_all) := goodIn_app (goodIn_of _ (by decide +kernel)) ggX6_census_X6_all
theorem dX6_census_0 : decode cX6_census 0 = .ok (.aload_n 0, 1) := by decide +kernel
theorem dX6_census_1 : decode cX6_census 1 = .ok (.iload_n 1, 1) := by decide +kernel
theorem dX6_census_2 : decode cX6_census 2 = .ok (.iload_n 2, 1) := by decide +kernel
theorem dX6_census_3 : decode cX6_census 3 = .ok (.iconst 0, 1) := by decide +kernel
theorem dX6_census_4 : decode cX6_census 4 = .ok (.invokevirtual 184, 3) := by decide +kernel
theorem dX6_census_7 : decode cX6_census 7 = .ok (.ireturn, 1) := by decide +kernel
set_option maxRecDepth 20000 in
theorem ggX6_kinds_X6_all : GoodIn wsX6_kinds wsX6_all := goodIn_r _ [5, 6, 7, 8, 9, 10, 11, 4, 12, 13, 14, 15, 16, 17, 18, 19, 20, 21, 22, 23, 24, 25, 26, 27, 28, 29, 30, 31, 32, 33, 34, 35, 36, 37, 38, 39, 40, 41, 42, 43, 44, 45, 46, 47, 48, 49, 50, 51, 52, 53, 54, 55, 56, 57, 58, 59, 60, 61, 62, 63, 64, 65, 66, 67, 68, 69, 70] (by decide +kernel) (by decide +kernel)
set_option maxRecDepth 20000 in
theorem gX6_kinds_X6_all : GoodIn wsX6_kinds (wsV RX6 184 RX6 yX6_all wsX6_all) := goodIn_app (goodIn_of _ (by decide +kernel)) ggX6_kinds_X6_all
theorem dX6_kinds_0 : decode cX6_kinds 0 = .ok (.aload_n 0, 1) := by decide +kernel
theorem dX6_kinds_1 : decode cX6_kinds 1 = .ok (.iload_n 1, 1) := by decide +kernel
theorem dX6_kinds_2 : decode cX6_kinds 2 = .ok (.iload_n 2, 1) := by decide +kernel
theorem dX6_kinds_3 : decode cX6_kinds 3 = .ok (.iconst 1, 1) := by decide +kernel
theorem dX6_kinds_4 : decode cX6_kinds 4 = .ok (.invokevirtual 184, 3) := by decide +kernel
theorem dX6_kinds_7 : decode cX6_kinds 7 = .ok (.ireturn, 1) := by decide +kernel
theorem dX6_curves_0 : decode cX6_curves 0 = .ok (.aload_n 0, 1) := by decide +kernel
theorem dX6_curves_1 : decode cX6_curves 1 = .ok (.getfield 112, 3) := by decide +kernel
theorem dX6_curves_4 : decode cX6_curves 4 = .ok (.ireturn, 1) := by decide +kernel
theorem dX6_drop_0 : decode cX6_drop 0 = .ok (.aload_n 0, 1) := by decide +kernel
theorem dX6_drop_1 : decode cX6_drop 1 = .ok (.getfield 112, 3) := by decide +kernel
theorem dX6_drop_4 : decode cX6_drop 4 = .ok (.ifCond .ne 5, 3) := by decide +kernel
theorem dX6_drop_7 : decode cX6_drop 7 = .ok (.iconst (-1), 1) := by decide +kernel
theorem dX6_drop_8 : decode cX6_drop 8 = .ok (.ireturn, 1) := by decide +kernel
theorem dX6_drop_9 : decode cX6_drop 9 = .ok (.aload_n 0, 1) := by decide +kernel
theorem dX6_drop_10 : decode cX6_drop 10 = .ok (.dup, 1) := by decide +kernel
theorem dX6_drop_11 : decode cX6_drop 11 = .ok (.getfield 112, 3) := by decide +kernel
theorem dX6_drop_14 : decode cX6_drop 14 = .ok (.iconst 1, 1) := by decide +kernel
theorem dX6_drop_15 : decode cX6_drop 15 = .ok (.isub, 1) := by decide +kernel
theorem dX6_drop_16 : decode cX6_drop 16 = .ok (.putfield 112, 3) := by decide +kernel
theorem dX6_drop_19 : decode cX6_drop 19 = .ok (.aload_n 0, 1) := by decide +kernel
theorem dX6_drop_20 : decode cX6_drop 20 = .ok (.getfield 112, 3) := by decide +kernel
theorem dX6_drop_23 : decode cX6_drop 23 = .ok (.ireturn, 1) := by decide +kernel
abbrev vwCl : List vw_C := [(RX0, TX0, 12), (RX1, TX1, 2), (RX2, TX2, 6), (RX3, TX3, 3), (RX5, TX5, 3), (RX6, TX6, 18)]
