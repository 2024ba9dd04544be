def nw_all (U : State) : Prop := va_Nw (.methodLinkNest RX0 27 yX5_xOf RX5) U ∧ va_Nw (.methodLinkNest RX0 31 yX5_yOf RX5) U ∧ va_Nw (.methodLinkNest RX0 60 yX5_pair RX5) U ∧ va_Nw (.methodLinkNest RX2 57 yX5_xOf RX5) U ∧ va_Nw (.methodLinkNest RX3 73 yX5_pair RX5) U ∧ va_Nw (.methodLinkNest RX3 83 yX5_xOf RX5) U ∧ va_AO RX0 U
theorem nw_X0_27 {U : State} (h : nw_all U) : va_Nw (.methodLinkNest RX0 27 yX5_xOf RX5) U := h.1
theorem nw_X0_31 {U : State} (h : nw_all U) : va_Nw (.methodLinkNest RX0 31 yX5_yOf RX5) U := h.2.1
theorem nw_X0_60 {U : State} (h : nw_all U) : va_Nw (.methodLinkNest RX0 60 yX5_pair RX5) U := h.2.2.1
theorem nw_X2_57 {U : State} (h : nw_all U) : va_Nw (.methodLinkNest RX2 57 yX5_xOf RX5) U := h.2.2.2.1
theorem nw_X3_73 {U : State} (h : nw_all U) : va_Nw (.methodLinkNest RX3 73 yX5_pair RX5) U := h.2.2.2.2.1
theorem nw_X3_83 {U : State} (h : nw_all U) : va_Nw (.methodLinkNest RX3 83 yX5_xOf RX5) U := h.2.2.2.2.2.1
theorem nw_ao {U : State} (h : nw_all U) : va_AO RX0 U := h.2.2.2.2.2.2
theorem nw_warm {s U : State} (hW : s.WarmedH U.vm) (h : nw_all s) : nw_all U := ⟨va_Nw.warmM hW (h.1), va_Nw.warmM hW (h.2.1), va_Nw.warmM hW (h.2.2.1), va_Nw.warmM hW (h.2.2.2.1), va_Nw.warmM hW (h.2.2.2.2.1), va_Nw.warmM hW (h.2.2.2.2.2.1), va_AO.moved hW.alike (h.2.2.2.2.2.2)⟩
theorem nw_same {u U : State} (hvm : u.vm = U.vm) (h : nw_all u) : nw_all U := ⟨va_Nw.same rfl hvm (h.1), va_Nw.same rfl hvm (h.2.1), va_Nw.same rfl hvm (h.2.2.1), va_Nw.same rfl hvm (h.2.2.2.1), va_Nw.same rfl hvm (h.2.2.2.2.1), va_Nw.same rfl hvm (h.2.2.2.2.2.1), va_AO.moved (by rw [hvm]; exact Vm.Alike.refl _) (h.2.2.2.2.2.2)⟩
