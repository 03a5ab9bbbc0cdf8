theorem hd_L_numbers : yL_numbers.cls ≠ "java/lang/invoke/MethodHandle" ∧ yL_numbers.cls ≠ "java/lang/invoke/VarHandle" ∧ (parseMethodDescriptor yL_numbers.desc).map (fun d => d.parameters.length) = some 3 := ⟨by decide +kernel, by decide +kernel, by decide +kernel⟩
theorem gk_L_numbers {own : String} {idx : Nat} (h : Cond.methodLink own idx yL_numbers ∈ wsA) : GoodIn wsA (va_wsS own idx yL_numbers (.codeWith yL_numbers cL_numbers 4 (some .int) [(0, 6, 7, 13), (0, 6, 11, 16)] :: wsA)) := gd_S h wt_1_145 wt_1_0 wt_1_146
/-! BitNotationLaw.numbers(LBitNotation;II)I -/
theorem dL_numbers_0 : decode cL_numbers 0 = .ok (.aload_n 0, 1) := by decide +kernel
theorem dL_numbers_1 : decode cL_numbers 1 = .ok (.iload_n 1, 1) := by decide +kernel
theorem dL_numbers_2 : decode cL_numbers 2 = .ok (.iload_n 2, 1) := by decide +kernel
theorem dL_numbers_3 : decode cL_numbers 3 = .ok (.invokevirtual 7, 3) := by decide +kernel
theorem dL_numbers_6 : decode cL_numbers 6 = .ok (.ireturn, 1) := by decide +kernel
theorem dL_numbers_7 : decode cL_numbers 7 = .ok (.astore_n 3, 1) := by decide +kernel
theorem dL_numbers_8 : decode cL_numbers 8 = .ok (.ldc 15, 2) := by decide +kernel
theorem dL_numbers_10 : decode cL_numbers 10 = .ok (.ireturn, 1) := by decide +kernel
theorem dL_numbers_11 : decode cL_numbers 11 = .ok (.astore_n 3, 1) := by decide +kernel
theorem dL_numbers_12 : decode cL_numbers 12 = .ok (.ldc 18, 2) := by decide +kernel
theorem dL_numbers_14 : decode cL_numbers 14 = .ok (.ireturn, 1) := by decide +kernel
def wp_L_numbers (kd : Nat → Nat) (x1 : Nat) (x2 : Int32) (x3 : Int32) (μ : Mm) (post : Int32 → Mm → Prop) : Prop := (∃ f4, μ x1 = some (.inl (5, f4))) ∧ wp_X6_addNumber x1 kd x2 x3 μ (fun r1 μ2 => post r1 μ2) (fun E9 μ9 => (E9 = "java/lang/IllegalArgumentException" ∧ post (-2000000002 : Int32) μ9) ∨ (E9 = "java/lang/IllegalStateException" ∧ post (-2000000003 : Int32) μ9))
set_option maxHeartbeats 4000000 in
set_option maxRecDepth 100000 in
theorem c_L_numbers (l : Launch) (G : gG) (A : Nat → Prop) (hl0 : l.stackTraces = false) (kd : Nat → Nat) (hkd : G.2.2 = kd) (x1 : Nat) (x2 : Int32) (x3 : Int32) (μ : Mm) (post : Int32 → Mm → Prop) (h : wp_L_numbers kd x1 x2 x3 μ post) : Met l yL_numbers (.codeWith yL_numbers cL_numbers 4 (some .int) [(0, 6, 7, 13), (0, 6, 11, 16)] :: wsA) (rmL (5) 6 23) (PcG G A μ [.ref x1, .int x2, .int x3]) (QG G A (pI post)) 6 23 A := by
  refine met_JW (loc := [(0, .ref x1), (1, .int x2), (2, .int x3)]) (by decide +kernel) (Nat.le_of_ble_eq_true rfl) rfl ?_
  intro p e s m args below meth c X htab
  have X : Cx p l s m args meth c cL_numbers 4 (some .int) RL G A := X
  have hw := h
  unfold wp_L_numbers at hw
  refine j_aload_n X (pc' := 1) (kk := 0) (i := 0) 0 rfl rfl dL_numbers_0 rfl ?_
  refine j_iload_n X (pc' := 2) (kk := 1) (i := 1) 1 rfl rfl dL_numbers_1 rfl ?_
  refine j_iload_n X (pc' := 3) (kk := 2) (i := 2) 2 rfl rfl dL_numbers_2 rfl ?_
  obtain ⟨⟨f4, hm3⟩, hw1⟩ := hw
  refine j_tryVi (As := [.int x2, .int x3]) (rest := []) X (pc' := 6) (cells' := 6) (slots' := 23) htab (c_X6_addNumber l G A hl0 kd hkd x1 x2 x3 μ _ _ hw1) (gk_X6_addNumber wt_1_149) hd_X6_addNumber (rmL_fit (k1 := 4) (k := 5) (by omega) (by decide)) hm3 rfl rfl rfl (Nat.le_of_ble_eq_true rfl) dL_numbers_3 rfl ⟨Nat.le_of_ble_eq_true rfl, Nat.le_of_ble_eq_true rfl⟩ rfl rfl (fun E9 μ9 hx => ?_) (fun r1 μ2 hw2 => ?_)
  · rcases hx with ⟨rfl, hwx⟩ | ⟨rfl, hwx⟩
    · refine ⟨(List.mem_of_getElem? (i := 0) rfl), [], ⟨0, 6, 7, 13⟩, [⟨0, 6, 11, 16⟩], rfl, fun z hz => absurd hz List.not_mem_nil, rfl, by decide, wt_1_147, fun q9 => ?_⟩
      have hw3 := hwx
      refine j_astore_n X (pc' := 8) (kk := 3) (i := 3) (loc' := [(3, .ref q9), (0, .ref x1), (1, .int x2), (2, .int x3)]) dL_numbers_7 rfl rfl (by decide) rfl ?_
      refine j_ldc X (pc' := 10) (v := (-2000000002 : Int32)) wt_2_111 dL_numbers_8 rfl ?_
      exact j_iret X ⟨_, rfl, hw3⟩ (Nat.le_of_ble_eq_true rfl) (Nat.le_of_ble_eq_true rfl) dL_numbers_10
    · refine ⟨(List.mem_of_getElem? (i := 1) rfl), [⟨0, 6, 7, 13⟩], ⟨0, 6, 11, 16⟩, [], rfl, List.forall_mem_cons.mpr ⟨⟨by decide, "java/lang/IllegalArgumentException", (List.mem_of_getElem? (i := 0) rfl), by decide, wt_1_147⟩, fun z hz => absurd hz List.not_mem_nil⟩, rfl, by decide, wt_1_148, fun q9 => ?_⟩
      have hw4 := hwx
      refine j_astore_n X (pc' := 12) (kk := 3) (i := 3) (loc' := [(3, .ref q9), (0, .ref x1), (1, .int x2), (2, .int x3)]) dL_numbers_11 rfl rfl (by decide) rfl ?_
      refine j_ldc X (pc' := 14) (v := (-2000000003 : Int32)) wt_2_112 dL_numbers_12 rfl ?_
      exact j_iret X ⟨_, rfl, hw4⟩ (Nat.le_of_ble_eq_true rfl) (Nat.le_of_ble_eq_true rfl) dL_numbers_14
  · exact j_iret X ⟨_, rfl, hw2⟩ (Nat.le_of_ble_eq_true rfl) (Nat.le_of_ble_eq_true rfl) dL_numbers_6
theorem hd_L_lists : yL_lists.cls ≠ "java/lang/invoke/MethodHandle" ∧ yL_lists.cls ≠ "java/lang/invoke/VarHandle" ∧ (parseMethodDescriptor yL_lists.desc).map (fun d => d.parameters.length) = some 4 := ⟨by decide +kernel, by decide +kernel, by decide +kernel⟩
theorem gk_L_lists {own : String} {idx : Nat} (h : Cond.methodLink own idx yL_lists ∈ wsA) : GoodIn wsA (va_wsS own idx yL_lists (.codeWith yL_lists cL_lists 5 (some .int) [(0, 7, 8, 23), (0, 7, 13, 13), (0, 7, 18, 16)] :: wsA)) := gd_S h wt_2_114 wt_1_0 wt_2_115
/-! BitNotationLaw.lists(LBitNotation;III)I -/
theorem dL_lists_0 : decode cL_lists 0 = .ok (.aload_n 0, 1) := by decide +kernel
theorem dL_lists_1 : decode cL_lists 1 = .ok (.iload_n 1, 1) := by decide +kernel
theorem dL_lists_2 : decode cL_lists 2 = .ok (.iload_n 2, 1) := by decide +kernel
theorem dL_lists_3 : decode cL_lists 3 = .ok (.iload_n 3, 1) := by decide +kernel
theorem dL_lists_4 : decode cL_lists 4 = .ok (.invokevirtual 19, 3) := by decide +kernel
theorem dL_lists_7 : decode cL_lists 7 = .ok (.ireturn, 1) := by decide +kernel
theorem dL_lists_8 : decode cL_lists 8 = .ok (.astore 4, 2) := by decide +kernel
theorem dL_lists_10 : decode cL_lists 10 = .ok (.ldc 25, 2) := by decide +kernel
theorem dL_lists_12 : decode cL_lists 12 = .ok (.ireturn, 1) := by decide +kernel
theorem dL_lists_13 : decode cL_lists 13 = .ok (.astore 4, 2) := by decide +kernel
theorem dL_lists_15 : decode cL_lists 15 = .ok (.ldc 15, 2) := by decide +kernel
theorem dL_lists_17 : decode cL_lists 17 = .ok (.ireturn, 1) := by decide +kernel
theorem dL_lists_18 : decode cL_lists 18 = .ok (.astore 4, 2) := by decide +kernel
theorem dL_lists_20 : decode cL_lists 20 = .ok (.ldc 18, 2) := by decide +kernel
theorem dL_lists_22 : decode cL_lists 22 = .ok (.ireturn, 1) := by decide +kernel
def wp_L_lists (kd : Nat → Nat) (x1 : Nat) (x2 : Int32) (x3 : Int32) (x4 : Int32) (μ : Mm) (post : Int32 → Mm → Prop) : Prop := (∃ f4, μ x1 = some (.inl (5, f4))) ∧ wp_X6_addList x1 kd x2 x3 x4 μ (fun r1 μ2 => post r1 μ2) (fun E9 μ9 => (E9 = "java/lang/IndexOutOfBoundsException" ∧ post (-2000000001 : Int32) μ9) ∨ (E9 = "java/lang/IllegalArgumentException" ∧ post (-2000000002 : Int32) μ9) ∨ (E9 = "java/lang/IllegalStateException" ∧ post (-2000000003 : Int32) μ9))
set_option maxHeartbeats 4000000 in
set_option maxRecDepth 100000 in
theorem c_L_lists (l : Launch) (G : gG) (A : Nat → Prop) (hl0 : l.stackTraces = false) (kd : Nat → Nat) (hkd : G.2.2 = kd) (x1 : Nat) (x2 : Int32) (x3 : Int32) (x4 : Int32) (μ : Mm) (post : Int32 → Mm → Prop) (h : wp_L_lists kd x1 x2 x3 x4 μ post) : Met l yL_lists (.codeWith yL_lists cL_lists 5 (some .int) [(0, 7, 8, 23), (0, 7, 13, 13), (0, 7, 18, 16)] :: wsA) (rmL (5) 7 30) (PcG G A μ [.ref x1, .int x2, .int x3, .int x4]) (QG G A (pI post)) 7 30 A := by
  refine met_JW (loc := [(0, .ref x1), (1, .int x2), (2, .int x3), (3, .int x4)]) (by decide +kernel) (Nat.le_of_ble_eq_true rfl) rfl ?_
  intro p e s m args below meth c X htab
  have X : Cx p l s m args meth c cL_lists 5 (some .int) RL G A := X
  have hw := h
  unfold wp_L_lists at hw
  refine j_aload_n X (pc' := 1) (kk := 0) (i := 0) 0 rfl rfl dL_lists_0 rfl ?_
  refine j_iload_n X (pc' := 2) (kk := 1) (i := 1) 1 rfl rfl dL_lists_1 rfl ?_
  refine j_iload_n X (pc' := 3) (kk := 2) (i := 2) 2 rfl rfl dL_lists_2 rfl ?_
  refine j_iload_n X (pc' := 4) (kk := 3) (i := 3) 3 rfl rfl dL_lists_3 rfl ?_
  obtain ⟨⟨f4, hm3⟩, hw1⟩ := hw
  refine j_tryVi (As := [.int x2, .int x3, .int x4]) (rest := []) X (pc' := 7) (cells' := 7) (slots' := 30) htab (c_X6_addList l G A hl0 kd hkd x1 x2 x3 x4 μ _ _ hw1) (gk_X6_addList wt_2_117) hd_X6_addList (rmL_fit (k1 := 4) (k := 5) (by omega) (by decide)) hm3 rfl rfl rfl (Nat.le_of_ble_eq_true rfl) dL_lists_4 rfl ⟨Nat.le_of_ble_eq_true rfl, Nat.le_of_ble_eq_true rfl⟩ rfl rfl (fun E9 μ9 hx => ?_) (fun r1 μ2 hw2 => ?_)
  · rcases hx with ⟨rfl, hwx⟩ | ⟨rfl, hwx⟩ | ⟨rfl, hwx⟩
    · refine ⟨(List.mem_of_getElem? (i := 2) rfl), [], ⟨0, 7, 8, 23⟩, [⟨0, 7, 13, 13⟩, ⟨0, 7, 18, 16⟩], rfl, fun z hz => absurd hz List.not_mem_nil, rfl, by decide, wt_2_116, fun q9 => ?_⟩
      have hw3 := hwx
      refine j_astore X (pc' := 10) (i := 4) (loc' := [(4, .ref q9), (0, .ref x1), (1, .int x2), (2, .int x3), (3, .int x4)]) dL_lists_8 rfl (by decide) rfl ?_
      refine j_ldc X (pc' := 12) (v := (-2000000001 : Int32)) wt_2_144 dL_lists_10 rfl ?_
      exact j_iret X ⟨_, rfl, hw3⟩ (Nat.le_of_ble_eq_true rfl) (Nat.le_of_ble_eq_true rfl) dL_lists_12
    · refine ⟨(List.mem_of_getElem? (i := 0) rfl), [⟨0, 7, 8, 23⟩], ⟨0, 7, 13, 13⟩, [⟨0, 7, 18, 16⟩], rfl, List.forall_mem_cons.mpr ⟨⟨by decide, "java/lang/IndexOutOfBoundsException", (List.mem_of_getElem? (i := 2) rfl), by decide, wt_2_116⟩, fun z hz => absurd hz List.not_mem_nil⟩, rfl, by decide, wt_1_147, fun q9 => ?_⟩
      have hw4 := hwx
      refine j_astore X (pc' := 15) (i := 4) (loc' := [(4, .ref q9), (0, .ref x1), (1, .int x2), (2, .int x3), (3, .int x4)]) dL_lists_13 rfl (by decide) rfl ?_
      refine j_ldc X (pc' := 17) (v := (-2000000002 : Int32)) wt_2_111 dL_lists_15 rfl ?_
      exact j_iret X ⟨_, rfl, hw4⟩ (Nat.le_of_ble_eq_true rfl) (Nat.le_of_ble_eq_true rfl) dL_lists_17
    · refine ⟨(List.mem_of_getElem? (i := 1) rfl), [⟨0, 7, 8, 23⟩, ⟨0, 7, 13, 13⟩], ⟨0, 7, 18, 16⟩, [], rfl, List.forall_mem_cons.mpr ⟨⟨by decide, "java/lang/IndexOutOfBoundsException", (List.mem_of_getElem? (i := 2) rfl), by decide, wt_2_116⟩, List.forall_mem_cons.mpr ⟨⟨by decide, "java/lang/IllegalArgumentException", (List.mem_of_getElem? (i := 0) rfl), by decide, wt_1_147⟩, fun z hz => absurd hz List.not_mem_nil⟩⟩, rfl, by decide, wt_1_148, fun q9 => ?_⟩
      have hw5 := hwx
      refine j_astore X (pc' := 20) (i := 4) (loc' := [(4, .ref q9), (0, .ref x1), (1, .int x2), (2, .int x3), (3, .int x4)]) dL_lists_18 rfl (by decide) rfl ?_
      refine j_ldc X (pc' := 22) (v := (-2000000003 : Int32)) wt_2_112 dL_lists_20 rfl ?_
      exact j_iret X ⟨_, rfl, hw5⟩ (Nat.le_of_ble_eq_true rfl) (Nat.le_of_ble_eq_true rfl) dL_lists_22
  · exact j_iret X ⟨_, rfl, hw2⟩ (Nat.le_of_ble_eq_true rfl) (Nat.le_of_ble_eq_true rfl) dL_lists_7
theorem hd_L_parts : yL_parts.cls ≠ "java/lang/invoke/MethodHandle" ∧ yL_parts.cls ≠ "java/lang/invoke/VarHandle" ∧ (parseMethodDescriptor yL_parts.desc).map (fun d => d.parameters.length) = some 3 := ⟨by decide +kernel, by decide +kernel, by decide +kernel⟩
theorem gk_L_parts {own : String} {idx : Nat} (h : Cond.methodLink own idx yL_parts ∈ wsA) : GoodIn wsA (va_wsS own idx yL_parts (.codeWith yL_parts cL_parts 4 (some .int) [(0, 6, 7, 23), (0, 6, 11, 16)] :: wsA)) := gd_S h wt_2_146 wt_1_0 wt_2_147
/-! BitNotationLaw.parts(LBitNotation;IZ)I -/
theorem dL_parts_0 : decode cL_parts 0 = .ok (.aload_n 0, 1) := by decide +kernel
theorem dL_parts_1 : decode cL_parts 1 = .ok (.iload_n 1, 1) := by decide +kernel
theorem dL_parts_2 : decode cL_parts 2 = .ok (.iload_n 2, 1) := by decide +kernel
theorem dL_parts_3 : decode cL_parts 3 = .ok (.invokevirtual 26, 3) := by decide +kernel
theorem dL_parts_6 : decode cL_parts 6 = .ok (.ireturn, 1) := by decide +kernel
theorem dL_parts_7 : decode cL_parts 7 = .ok (.astore_n 3, 1) := by decide +kernel
theorem dL_parts_8 : decode cL_parts 8 = .ok (.ldc 25, 2) := by decide +kernel
theorem dL_parts_10 : decode cL_parts 10 = .ok (.ireturn, 1) := by decide +kernel
theorem dL_parts_11 : decode cL_parts 11 = .ok (.astore_n 3, 1) := by decide +kernel
theorem dL_parts_12 : decode cL_parts 12 = .ok (.ldc 18, 2) := by decide +kernel
theorem dL_parts_14 : decode cL_parts 14 = .ok (.ireturn, 1) := by decide +kernel
def wp_L_parts (x1 : Nat) (x2 : Int32) (x3 : Int32) (μ : Mm) (post : Int32 → Mm → Prop) : Prop := (∃ f4, μ x1 = some (.inl (5, f4))) ∧ wp_X6_part x1 x2 x3 μ (fun r1 μ2 => post r1 μ2) (fun E9 μ9 => (E9 = "java/lang/IndexOutOfBoundsException" ∧ post (-2000000001 : Int32) μ9) ∨ (E9 = "java/lang/IllegalStateException" ∧ post (-2000000003 : Int32) μ9))
set_option maxHeartbeats 4000000 in
set_option maxRecDepth 100000 in
theorem c_L_parts (l : Launch) (G : gG) (A : Nat → Prop) (hl0 : l.stackTraces = false) (x1 : Nat) (x2 : Int32) (x3 : Int32) (μ : Mm) (post : Int32 → Mm → Prop) (h : wp_L_parts x1 x2 x3 μ post) : Met l yL_parts (.codeWith yL_parts cL_parts 4 (some .int) [(0, 6, 7, 23), (0, 6, 11, 16)] :: wsA) (rmL (3) 2 12) (PcG G A μ [.ref x1, .int x2, .int x3]) (QG G A (pI post)) 2 12 A := by
  refine met_JW (loc := [(0, .ref x1), (1, .int x2), (2, .int x3)]) (by decide +kernel) (Nat.le_of_ble_eq_true rfl) rfl ?_
  intro p e s m args below meth c X htab
  have X : Cx p l s m args meth c cL_parts 4 (some .int) RL G A := X
  have hw := h
  unfold wp_L_parts at hw
  refine j_aload_n X (pc' := 1) (kk := 0) (i := 0) 0 rfl rfl dL_parts_0 rfl ?_
  refine j_iload_n X (pc' := 2) (kk := 1) (i := 1) 1 rfl rfl dL_parts_1 rfl ?_
  refine j_iload_n X (pc' := 3) (kk := 2) (i := 2) 2 rfl rfl dL_parts_2 rfl ?_
  obtain ⟨⟨f4, hm3⟩, hw1⟩ := hw
  refine j_tryVi (As := [.int x2, .int x3]) (rest := []) X (pc' := 6) (cells' := 2) (slots' := 12) htab (c_X6_part l G A hl0 x1 x2 x3 μ _ _ hw1) (gk_X6_part wt_2_148) hd_X6_part (rmL_fit (k1 := 2) (k := 3) (by omega) (by decide)) hm3 rfl rfl rfl (Nat.le_of_ble_eq_true rfl) dL_parts_3 rfl ⟨Nat.le_of_ble_eq_true rfl, Nat.le_of_ble_eq_true rfl⟩ rfl rfl (fun E9 μ9 hx => ?_) (fun r1 μ2 hw2 => ?_)
  · rcases hx with ⟨rfl, hwx⟩ | ⟨rfl, hwx⟩
    · refine ⟨(List.mem_of_getElem? (i := 2) rfl), [], ⟨0, 6, 7, 23⟩, [⟨0, 6, 11, 16⟩], rfl, fun z hz => absurd hz List.not_mem_nil, rfl, by decide, wt_2_116, fun q9 => ?_⟩
      have hw3 := hwx
      refine j_astore_n X (pc' := 8) (kk := 3) (i := 3) (loc' := [(3, .ref q9), (0, .ref x1), (1, .int x2), (2, .int x3)]) dL_parts_7 rfl rfl (by decide) rfl ?_
      refine j_ldc X (pc' := 10) (v := (-2000000001 : Int32)) wt_2_144 dL_parts_8 rfl ?_
      exact j_iret X ⟨_, rfl, hw3⟩ (Nat.le_of_ble_eq_true rfl) (Nat.le_of_ble_eq_true rfl) dL_parts_10
    · refine ⟨(List.mem_of_getElem? (i := 1) rfl), [⟨0, 6, 7, 23⟩], ⟨0, 6, 11, 16⟩, [], rfl, List.forall_mem_cons.mpr ⟨⟨by decide, "java/lang/IndexOutOfBoundsException", (List.mem_of_getElem? (i := 2) rfl), by decide, wt_2_116⟩, fun z hz => absurd hz List.not_mem_nil⟩, rfl, by decide, wt_1_148, fun q9 => ?_⟩
      have hw4 := hwx
      refine j_astore_n X (pc' := 12) (kk := 3) (i := 3) (loc' := [(3, .ref q9), (0, .ref x1), (1, .int x2), (2, .int x3)]) dL_parts_11 rfl rfl (by decide) rfl ?_
      refine j_ldc X (pc' := 14) (v := (-2000000003 : Int32)) wt_2_112 dL_parts_12 rfl ?_
      exact j_iret X ⟨_, rfl, hw4⟩ (Nat.le_of_ble_eq_true rfl) (Nat.le_of_ble_eq_true rfl) dL_parts_14
  · exact j_iret X ⟨_, rfl, hw2⟩ (Nat.le_of_ble_eq_true rfl) (Nat.le_of_ble_eq_true rfl) dL_parts_6
theorem hd_L_sequences : yL_sequences.cls ≠ "java/lang/invoke/MethodHandle" ∧ yL_sequences.cls ≠ "java/lang/invoke/VarHandle" ∧ (parseMethodDescriptor yL_sequences.desc).map (fun d => d.parameters.length) = some 1 := ⟨by decide +kernel, by decide +kernel, by decide +kernel⟩
theorem gk_L_sequences {own : String} {idx : Nat} (h : Cond.methodLink own idx yL_sequences ∈ wsA) : GoodIn wsA (va_wsS own idx yL_sequences (.codeWith yL_sequences cL_sequences 2 (some .int) [(0, 4, 5, 16)] :: wsA)) := gd_S h wt_3_149 wt_1_0 wt_3_150
/-! BitNotationLaw.sequences(LBitNotation;)I -/
theorem dL_sequences_0 : decode cL_sequences 0 = .ok (.aload_n 0, 1) := by decide +kernel
theorem dL_sequences_1 : decode cL_sequences 1 = .ok (.invokevirtual 30, 3) := by decide +kernel
theorem dL_sequences_4 : decode cL_sequences 4 = .ok (.ireturn, 1) := by decide +kernel
theorem dL_sequences_5 : decode cL_sequences 5 = .ok (.astore_n 1, 1) := by decide +kernel
theorem dL_sequences_6 : decode cL_sequences 6 = .ok (.ldc 18, 2) := by decide +kernel
theorem dL_sequences_8 : decode cL_sequences 8 = .ok (.ireturn, 1) := by decide +kernel
def wp_L_sequences (kd : Nat → Nat) (x1 : Nat) (μ : Mm) (post : Int32 → Mm → Prop) : Prop := (∃ f4, μ x1 = some (.inl (5, f4))) ∧ wp_X6_addSequence x1 kd μ (fun r1 μ2 => post r1 μ2) (fun E9 μ9 => (E9 = "java/lang/IllegalStateException" ∧ post (-2000000003 : Int32) μ9))
set_option maxHeartbeats 4000000 in
set_option maxRecDepth 100000 in
theorem c_L_sequences (l : Launch) (G : gG) (A : Nat → Prop) (hl0 : l.stackTraces = false) (kd : Nat → Nat) (hkd : G.2.2 = kd) (x1 : Nat) (μ : Mm) (post : Int32 → Mm → Prop) (h : wp_L_sequences kd x1 μ post) : Met l yL_sequences (.codeWith yL_sequences cL_sequences 2 (some .int) [(0, 4, 5, 16)] :: wsA) (rmL (6) 6 29) (PcG G A μ [.ref x1]) (QG G A (pI post)) 6 29 A := by
  refine met_JW (loc := [(0, .ref x1)]) (by decide +kernel) (Nat.le_of_ble_eq_true rfl) rfl ?_
  intro p e s m args below meth c X htab
  have X : Cx p l s m args meth c cL_sequences 2 (some .int) RL G A := X
  have hw := h
  unfold wp_L_sequences at hw
  refine j_aload_n X (pc' := 1) (kk := 0) (i := 0) 0 rfl rfl dL_sequences_0 rfl ?_
  obtain ⟨⟨f4, hm3⟩, hw1⟩ := hw
  refine j_tryVi (As := []) (rest := []) X (pc' := 4) (cells' := 6) (slots' := 29) htab (c_X6_addSequence l G A hl0 kd hkd x1 μ _ _ hw1) (gk_X6_addSequence wt_3_151) hd_X6_addSequence (rmL_fit (k1 := 5) (k := 6) (by omega) (by decide)) hm3 rfl rfl rfl (Nat.le_of_ble_eq_true rfl) dL_sequences_1 rfl ⟨Nat.le_of_ble_eq_true rfl, Nat.le_of_ble_eq_true rfl⟩ rfl rfl (fun E9 μ9 hx => ?_) (fun r1 μ2 hw2 => ?_)
  · obtain ⟨rfl, hwx⟩ := hx
    refine ⟨(List.mem_of_getElem? (i := 1) rfl), [], ⟨0, 4, 5, 16⟩, [], rfl, fun z hz => absurd hz List.not_mem_nil, rfl, by decide, wt_1_148, fun q9 => ?_⟩
    have hw3 := hwx
    refine j_astore_n X (pc' := 6) (kk := 1) (i := 1) (loc' := [(1, .ref q9), (0, .ref x1)]) dL_sequences_5 rfl rfl (by decide) rfl ?_
    refine j_ldc X (pc' := 8) (v := (-2000000003 : Int32)) wt_2_112 dL_sequences_6 rfl ?_
    exact j_iret X ⟨_, rfl, hw3⟩ (Nat.le_of_ble_eq_true rfl) (Nat.le_of_ble_eq_true rfl) dL_sequences_8
  · exact j_iret X ⟨_, rfl, hw2⟩ (Nat.le_of_ble_eq_true rfl) (Nat.le_of_ble_eq_true rfl) dL_sequences_4
theorem hd_L_choices : yL_choices.cls ≠ "java/lang/invoke/MethodHandle" ∧ yL_choices.cls ≠ "java/lang/invoke/VarHandle" ∧ (parseMethodDescriptor yL_choices.desc).map (fun d => d.parameters.length) = some 1 := ⟨by decide +kernel, by decide +kernel, by decide +kernel⟩
theorem gk_L_choices {own : String} {idx : Nat} (h : Cond.methodLink own idx yL_choices ∈ wsA) : GoodIn wsA (va_wsS own idx yL_choices (.codeWith yL_choices cL_choices 2 (some .int) [(0, 4, 5, 16)] :: wsA)) := gd_S h wt_3_161 wt_1_0 wt_3_162
/-! BitNotationLaw.choices(LBitNotation;)I -/
theorem dL_choices_0 : decode cL_choices 0 = .ok (.aload_n 0, 1) := by decide +kernel
theorem dL_choices_1 : decode cL_choices 1 = .ok (.invokevirtual 34, 3) := by decide +kernel
theorem dL_choices_4 : decode cL_choices 4 = .ok (.ireturn, 1) := by decide +kernel
theorem dL_choices_5 : decode cL_choices 5 = .ok (.astore_n 1, 1) := by decide +kernel
theorem dL_choices_6 : decode cL_choices 6 = .ok (.ldc 18, 2) := by decide +kernel
theorem dL_choices_8 : decode cL_choices 8 = .ok (.ireturn, 1) := by decide +kernel
def wp_L_choices (kd : Nat → Nat) (x1 : Nat) (μ : Mm) (post : Int32 → Mm → Prop) : Prop := (∃ f4, μ x1 = some (.inl (5, f4))) ∧ wp_X6_addChoice x1 kd μ (fun r1 μ2 => post r1 μ2) (fun E9 μ9 => (E9 = "java/lang/IllegalStateException" ∧ post (-2000000003 : Int32) μ9))
set_option maxHeartbeats 4000000 in
set_option maxRecDepth 100000 in
theorem c_L_choices (l : Launch) (G : gG) (A : Nat → Prop) (hl0 : l.stackTraces = false) (kd : Nat → Nat) (hkd : G.2.2 = kd) (x1 : Nat) (μ : Mm) (post : Int32 → Mm → Prop) (h : wp_L_choices kd x1 μ post) : Met l yL_choices (.codeWith yL_choices cL_choices 2 (some .int) [(0, 4, 5, 16)] :: wsA) (rmL (6) 6 29) (PcG G A μ [.ref x1]) (QG G A (pI post)) 6 29 A := by
  refine met_JW (loc := [(0, .ref x1)]) (by decide +kernel) (Nat.le_of_ble_eq_true rfl) rfl ?_
  intro p e s m args below meth c X htab
  have X : Cx p l s m args meth c cL_choices 2 (some .int) RL G A := X
  have hw := h
  unfold wp_L_choices at hw
  refine j_aload_n X (pc' := 1) (kk := 0) (i := 0) 0 rfl rfl dL_choices_0 rfl ?_
  obtain ⟨⟨f4, hm3⟩, hw1⟩ := hw
  refine j_tryVi (As := []) (rest := []) X (pc' := 4) (cells' := 6) (slots' := 29) htab (c_X6_addChoice l G A hl0 kd hkd x1 μ _ _ hw1) (gk_X6_addChoice wt_3_163) hd_X6_addChoice (rmL_fit (k1 := 5) (k := 6) (by omega) (by decide)) hm3 rfl rfl rfl (Nat.le_of_ble_eq_true rfl) dL_choices_1 rfl ⟨Nat.le_of_ble_eq_true rfl, Nat.le_of_ble_eq_true rfl⟩ rfl rfl (fun E9 μ9 hx => ?_) (fun r1 μ2 hw2 => ?_)
  · obtain ⟨rfl, hwx⟩ := hx
    refine ⟨(List.mem_of_getElem? (i := 1) rfl), [], ⟨0, 4, 5, 16⟩, [], rfl, fun z hz => absurd hz List.not_mem_nil, rfl, by decide, wt_1_148, fun q9 => ?_⟩
    have hw3 := hwx
    refine j_astore_n X (pc' := 6) (kk := 1) (i := 1) (loc' := [(1, .ref q9), (0, .ref x1)]) dL_choices_5 rfl rfl (by decide) rfl ?_
    refine j_ldc X (pc' := 8) (v := (-2000000003 : Int32)) wt_2_112 dL_choices_6 rfl ?_
    exact j_iret X ⟨_, rfl, hw3⟩ (Nat.le_of_ble_eq_true rfl) (Nat.le_of_ble_eq_true rfl) dL_choices_8
  · exact j_iret X ⟨_, rfl, hw2⟩ (Nat.le_of_ble_eq_true rfl) (Nat.le_of_ble_eq_true rfl) dL_choices_4
theorem hd_L_extend : yL_extend.cls ≠ "java/lang/invoke/MethodHandle" ∧ yL_extend.cls ≠ "java/lang/invoke/VarHandle" ∧ (parseMethodDescriptor yL_extend.desc).map (fun d => d.parameters.length) = some 3 := ⟨by decide +kernel, by decide +kernel, by decide +kernel⟩
theorem gk_L_extend {own : String} {idx : Nat} (h : Cond.methodLink own idx yL_extend ∈ wsA) : GoodIn wsA (va_wsS own idx yL_extend (.codeWith yL_extend cL_extend 4 (some .int) [(0, 6, 7, 23), (0, 6, 11, 13), (0, 6, 15, 16)] :: wsA)) := gd_S h wt_2_154 wt_1_0 wt_2_155
/-! BitNotationLaw.extend(LBitNotation;II)I -/
theorem dL_extend_0 : decode cL_extend 0 = .ok (.aload_n 0, 1) := by decide +kernel
theorem dL_extend_1 : decode cL_extend 1 = .ok (.iload_n 1, 1) := by decide +kernel
theorem dL_extend_2 : decode cL_extend 2 = .ok (.iload_n 2, 1) := by decide +kernel
theorem dL_extend_3 : decode cL_extend 3 = .ok (.invokevirtual 37, 3) := by decide +kernel
theorem dL_extend_6 : decode cL_extend 6 = .ok (.ireturn, 1) := by decide +kernel
theorem dL_extend_7 : decode cL_extend 7 = .ok (.astore_n 3, 1) := by decide +kernel
theorem dL_extend_8 : decode cL_extend 8 = .ok (.ldc 25, 2) := by decide +kernel
theorem dL_extend_10 : decode cL_extend 10 = .ok (.ireturn, 1) := by decide +kernel
theorem dL_extend_11 : decode cL_extend 11 = .ok (.astore_n 3, 1) := by decide +kernel
theorem dL_extend_12 : decode cL_extend 12 = .ok (.ldc 15, 2) := by decide +kernel
theorem dL_extend_14 : decode cL_extend 14 = .ok (.ireturn, 1) := by decide +kernel
theorem dL_extend_15 : decode cL_extend 15 = .ok (.astore_n 3, 1) := by decide +kernel
theorem dL_extend_16 : decode cL_extend 16 = .ok (.ldc 18, 2) := by decide +kernel
theorem dL_extend_18 : decode cL_extend 18 = .ok (.ireturn, 1) := by decide +kernel
def wp_L_extend (kd : Nat → Nat) (x1 : Nat) (x2 : Int32) (x3 : Int32) (μ : Mm) (post : Int32 → Mm → Prop) : Prop := (∃ f4, μ x1 = some (.inl (5, f4))) ∧ wp_X6_extend x1 kd x2 x3 μ (fun r1 μ2 => post r1 μ2) (fun E9 μ9 => (E9 = "java/lang/IndexOutOfBoundsException" ∧ post (-2000000001 : Int32) μ9) ∨ (E9 = "java/lang/IllegalArgumentException" ∧ post (-2000000002 : Int32) μ9) ∨ (E9 = "java/lang/IllegalStateException" ∧ post (-2000000003 : Int32) μ9))
set_option maxHeartbeats 4000000 in
set_option maxRecDepth 100000 in
theorem c_L_extend (l : Launch) (G : gG) (A : Nat → Prop) (hl0 : l.stackTraces = false) (kd : Nat → Nat) (hkd : G.2.2 = kd) (x1 : Nat) (x2 : Int32) (x3 : Int32) (μ : Mm) (post : Int32 → Mm → Prop) (h : wp_L_extend kd x1 x2 x3 μ post) : Met l yL_extend (.codeWith yL_extend cL_extend 4 (some .int) [(0, 6, 7, 23), (0, 6, 11, 13), (0, 6, 15, 16)] :: wsA) (rmL (5) 3 18) (PcG G A μ [.ref x1, .int x2, .int x3]) (QG G A (pI post)) 3 18 A := by
  refine met_JW (loc := [(0, .ref x1), (1, .int x2), (2, .int x3)]) (by decide +kernel) (Nat.le_of_ble_eq_true rfl) rfl ?_
  intro p e s m args below meth c X htab
  have X : Cx p l s m args meth c cL_extend 4 (some .int) RL G A := X
  have hw := h
  unfold wp_L_extend at hw
  refine j_aload_n X (pc' := 1) (kk := 0) (i := 0) 0 rfl rfl dL_extend_0 rfl ?_
  refine j_iload_n X (pc' := 2) (kk := 1) (i := 1) 1 rfl rfl dL_extend_1 rfl ?_
  refine j_iload_n X (pc' := 3) (kk := 2) (i := 2) 2 rfl rfl dL_extend_2 rfl ?_
  obtain ⟨⟨f4, hm3⟩, hw1⟩ := hw
  refine j_tryVi (As := [.int x2, .int x3]) (rest := []) X (pc' := 6) (cells' := 3) (slots' := 18) htab (c_X6_extend l G A hl0 kd hkd x1 x2 x3 μ _ _ hw1) (gk_X6_extend wt_2_156) hd_X6_extend (rmL_fit (k1 := 4) (k := 5) (by omega) (by decide)) hm3 rfl rfl rfl (Nat.le_of_ble_eq_true rfl) dL_extend_3 rfl ⟨Nat.le_of_ble_eq_true rfl, Nat.le_of_ble_eq_true rfl⟩ rfl rfl (fun E9 μ9 hx => ?_) (fun r1 μ2 hw2 => ?_)
  · rcases hx with ⟨rfl, hwx⟩ | ⟨rfl, hwx⟩ | ⟨rfl, hwx⟩
    · refine ⟨(List.mem_of_getElem? (i := 2) rfl), [], ⟨0, 6, 7, 23⟩, [⟨0, 6, 11, 13⟩, ⟨0, 6, 15, 16⟩], rfl, fun z hz => absurd hz List.not_mem_nil, rfl, by decide, wt_2_116, fun q9 => ?_⟩
      have hw3 := hwx
      refine j_astore_n X (pc' := 8) (kk := 3) (i := 3) (loc' := [(3, .ref q9), (0, .ref x1), (1, .int x2), (2, .int x3)]) dL_extend_7 rfl rfl (by decide) rfl ?_
      refine j_ldc X (pc' := 10) (v := (-2000000001 : Int32)) wt_2_144 dL_extend_8 rfl ?_
      exact j_iret X ⟨_, rfl, hw3⟩ (Nat.le_of_ble_eq_true rfl) (Nat.le_of_ble_eq_true rfl) dL_extend_10
    · refine ⟨(List.mem_of_getElem? (i := 0) rfl), [⟨0, 6, 7, 23⟩], ⟨0, 6, 11, 13⟩, [⟨0, 6, 15, 16⟩], rfl, List.forall_mem_cons.mpr ⟨⟨by decide, "java/lang/IndexOutOfBoundsException", (List.mem_of_getElem? (i := 2) rfl), by decide, wt_2_116⟩, fun z hz => absurd hz List.not_mem_nil⟩, rfl, by decide, wt_1_147, fun q9 => ?_⟩
      have hw4 := hwx
      refine j_astore_n X (pc' := 12) (kk := 3) (i := 3) (loc' := [(3, .ref q9), (0, .ref x1), (1, .int x2), (2, .int x3)]) dL_extend_11 rfl rfl (by decide) rfl ?_
      refine j_ldc X (pc' := 14) (v := (-2000000002 : Int32)) wt_2_111 dL_extend_12 rfl ?_
      exact j_iret X ⟨_, rfl, hw4⟩ (Nat.le_of_ble_eq_true rfl) (Nat.le_of_ble_eq_true rfl) dL_extend_14
    · refine ⟨(List.mem_of_getElem? (i := 1) rfl), [⟨0, 6, 7, 23⟩, ⟨0, 6, 11, 13⟩], ⟨0, 6, 15, 16⟩, [], rfl, List.forall_mem_cons.mpr ⟨⟨by decide, "java/lang/IndexOutOfBoundsException", (List.mem_of_getElem? (i := 2) rfl), by decide, wt_2_116⟩, List.forall_mem_cons.mpr ⟨⟨by decide, "java/lang/IllegalArgumentException", (List.mem_of_getElem? (i := 0) rfl), by decide, wt_1_147⟩, fun z hz => absurd hz List.not_mem_nil⟩⟩, rfl, by decide, wt_1_148, fun q9 => ?_⟩
      have hw5 := hwx
      refine j_astore_n X (pc' := 16) (kk := 3) (i := 3) (loc' := [(3, .ref q9), (0, .ref x1), (1, .int x2), (2, .int x3)]) dL_extend_15 rfl rfl (by decide) rfl ?_
      refine j_ldc X (pc' := 18) (v := (-2000000003 : Int32)) wt_2_112 dL_extend_16 rfl ?_
      exact j_iret X ⟨_, rfl, hw5⟩ (Nat.le_of_ble_eq_true rfl) (Nat.le_of_ble_eq_true rfl) dL_extend_18
  · exact j_iret X ⟨_, rfl, hw2⟩ (Nat.le_of_ble_eq_true rfl) (Nat.le_of_ble_eq_true rfl) dL_extend_6
theorem hd_L_least : yL_least.cls ≠ "java/lang/invoke/MethodHandle" ∧ yL_least.cls ≠ "java/lang/invoke/VarHandle" ∧ (parseMethodDescriptor yL_least.desc).map (fun d => d.parameters.length) = some 2 := ⟨by decide +kernel, by decide +kernel, by decide +kernel⟩
theorem gk_L_least {own : String} {idx : Nat} (h : Cond.methodLink own idx yL_least ∈ wsA) : GoodIn wsA (va_wsS own idx yL_least (.codeWith yL_least cL_least 3 (some .int) [(0, 5, 6, 23)] :: wsA)) := gd_S h wt_2_175 wt_1_0 wt_2_176
/-! BitNotationLaw.least(LBitNotation;I)I -/
theorem dL_least_0 : decode cL_least 0 = .ok (.aload_n 0, 1) := by decide +kernel
theorem dL_least_1 : decode cL_least 1 = .ok (.iload_n 1, 1) := by decide +kernel
theorem dL_least_2 : decode cL_least 2 = .ok (.invokevirtual 40, 3) := by decide +kernel
theorem dL_least_5 : decode cL_least 5 = .ok (.ireturn, 1) := by decide +kernel
theorem dL_least_6 : decode cL_least 6 = .ok (.astore_n 2, 1) := by decide +kernel
theorem dL_least_7 : decode cL_least 7 = .ok (.ldc 25, 2) := by decide +kernel
theorem dL_least_9 : decode cL_least 9 = .ok (.ireturn, 1) := by decide +kernel
def wp_L_least (x1 : Nat) (x2 : Int32) (μ : Mm) (post : Int32 → Mm → Prop) : Prop := (∃ f4, μ x1 = some (.inl (5, f4))) ∧ wp_X6_leastBits x1 x2 μ (fun r1 μ2 => post r1 μ2) (fun E9 μ9 => (E9 = "java/lang/IndexOutOfBoundsException" ∧ post (-2000000001 : Int32) μ9))
set_option maxHeartbeats 4000000 in
set_option maxRecDepth 100000 in
theorem c_L_least (l : Launch) (G : gG) (A : Nat → Prop) (hl0 : l.stackTraces = false) (x1 : Nat) (x2 : Int32) (μ : Mm) (post : Int32 → Mm → Prop) (h : wp_L_least x1 x2 μ post) : Met l yL_least (.codeWith yL_least cL_least 3 (some .int) [(0, 5, 6, 23)] :: wsA) (rmL (3) 1 6) (PcG G A μ [.ref x1, .int x2]) (QG G A (pI post)) 1 6 A := by
  refine met_JW (loc := [(0, .ref x1), (1, .int x2)]) (by decide +kernel) (Nat.le_of_ble_eq_true rfl) rfl ?_
  intro p e s m args below meth c X htab
  have X : Cx p l s m args meth c cL_least 3 (some .int) RL G A := X
  have hw := h
  unfold wp_L_least at hw
  refine j_aload_n X (pc' := 1) (kk := 0) (i := 0) 0 rfl rfl dL_least_0 rfl ?_
  refine j_iload_n X (pc' := 2) (kk := 1) (i := 1) 1 rfl rfl dL_least_1 rfl ?_
  obtain ⟨⟨f4, hm3⟩, hw1⟩ := hw
  refine j_tryVi (As := [.int x2]) (rest := []) X (pc' := 5) (cells' := 1) (slots' := 6) htab (c_X6_leastBits l G A hl0 x1 x2 μ _ _ hw1) (gk_X6_leastBits wt_2_177) hd_X6_leastBits (rmL_fit (k1 := 2) (k := 3) (by omega) (by decide)) hm3 rfl rfl rfl (Nat.le_of_ble_eq_true rfl) dL_least_2 rfl ⟨Nat.le_of_ble_eq_true rfl, Nat.le_of_ble_eq_true rfl⟩ rfl rfl (fun E9 μ9 hx => ?_) (fun r1 μ2 hw2 => ?_)
  · obtain ⟨rfl, hwx⟩ := hx
    refine ⟨(List.mem_of_getElem? (i := 2) rfl), [], ⟨0, 5, 6, 23⟩, [], rfl, fun z hz => absurd hz List.not_mem_nil, rfl, by decide, wt_2_116, fun q9 => ?_⟩
    have hw3 := hwx
    refine j_astore_n X (pc' := 7) (kk := 2) (i := 2) (loc' := [(2, .ref q9), (0, .ref x1), (1, .int x2)]) dL_least_6 rfl rfl (by decide) rfl ?_
    refine j_ldc X (pc' := 9) (v := (-2000000001 : Int32)) wt_2_144 dL_least_7 rfl ?_
    exact j_iret X ⟨_, rfl, hw3⟩ (Nat.le_of_ble_eq_true rfl) (Nat.le_of_ble_eq_true rfl) dL_least_9
  · exact j_iret X ⟨_, rfl, hw2⟩ (Nat.le_of_ble_eq_true rfl) (Nat.le_of_ble_eq_true rfl) dL_least_5
theorem hd_L_most : yL_most.cls ≠ "java/lang/invoke/MethodHandle" ∧ yL_most.cls ≠ "java/lang/invoke/VarHandle" ∧ (parseMethodDescriptor yL_most.desc).map (fun d => d.parameters.length) = some 2 := ⟨by decide +kernel, by decide +kernel, by decide +kernel⟩
theorem gk_L_most {own : String} {idx : Nat} (h : Cond.methodLink own idx yL_most ∈ wsA) : GoodIn wsA (va_wsS own idx yL_most (.codeWith yL_most cL_most 3 (some .int) [(0, 5, 6, 23)] :: wsA)) := gd_S h wt_2_182 wt_1_0 wt_2_183
/-! BitNotationLaw.most(LBitNotation;I)I -/
theorem dL_most_0 : decode cL_most 0 = .ok (.aload_n 0, 1) := by decide +kernel
theorem dL_most_1 : decode cL_most 1 = .ok (.iload_n 1, 1) := by decide +kernel
theorem dL_most_2 : decode cL_most 2 = .ok (.invokevirtual 44, 3) := by decide +kernel
theorem dL_most_5 : decode cL_most 5 = .ok (.ireturn, 1) := by decide +kernel
theorem dL_most_6 : decode cL_most 6 = .ok (.astore_n 2, 1) := by decide +kernel
theorem dL_most_7 : decode cL_most 7 = .ok (.ldc 25, 2) := by decide +kernel
theorem dL_most_9 : decode cL_most 9 = .ok (.ireturn, 1) := by decide +kernel
def wp_L_most (x1 : Nat) (x2 : Int32) (μ : Mm) (post : Int32 → Mm → Prop) : Prop := (∃ f4, μ x1 = some (.inl (5, f4))) ∧ wp_X6_mostBits x1 x2 μ (fun r1 μ2 => post r1 μ2) (fun E9 μ9 => (E9 = "java/lang/IndexOutOfBoundsException" ∧ post (-2000000001 : Int32) μ9))
set_option maxHeartbeats 4000000 in
set_option maxRecDepth 100000 in
theorem c_L_most (l : Launch) (G : gG) (A : Nat → Prop) (hl0 : l.stackTraces = false) (x1 : Nat) (x2 : Int32) (μ : Mm) (post : Int32 → Mm → Prop) (h : wp_L_most x1 x2 μ post) : Met l yL_most (.codeWith yL_most cL_most 3 (some .int) [(0, 5, 6, 23)] :: wsA) (rmL (3) 1 6) (PcG G A μ [.ref x1, .int x2]) (QG G A (pI post)) 1 6 A := by
  refine met_JW (loc := [(0, .ref x1), (1, .int x2)]) (by decide +kernel) (Nat.le_of_ble_eq_true rfl) rfl ?_
  intro p e s m args below meth c X htab
  have X : Cx p l s m args meth c cL_most 3 (some .int) RL G A := X
  have hw := h
  unfold wp_L_most at hw
  refine j_aload_n X (pc' := 1) (kk := 0) (i := 0) 0 rfl rfl dL_most_0 rfl ?_
  refine j_iload_n X (pc' := 2) (kk := 1) (i := 1) 1 rfl rfl dL_most_1 rfl ?_
  obtain ⟨⟨f4, hm3⟩, hw1⟩ := hw
  refine j_tryVi (As := [.int x2]) (rest := []) X (pc' := 5) (cells' := 1) (slots' := 6) htab (c_X6_mostBits l G A hl0 x1 x2 μ _ _ hw1) (gk_X6_mostBits wt_2_184) hd_X6_mostBits (rmL_fit (k1 := 2) (k := 3) (by omega) (by decide)) hm3 rfl rfl rfl (Nat.le_of_ble_eq_true rfl) dL_most_2 rfl ⟨Nat.le_of_ble_eq_true rfl, Nat.le_of_ble_eq_true rfl⟩ rfl rfl (fun E9 μ9 hx => ?_) (fun r1 μ2 hw2 => ?_)
  · obtain ⟨rfl, hwx⟩ := hx
    refine ⟨(List.mem_of_getElem? (i := 2) rfl), [], ⟨0, 5, 6, 23⟩, [], rfl, fun z hz => absurd hz List.not_mem_nil, rfl, by decide, wt_2_116, fun q9 => ?_⟩
    have hw3 := hwx
    refine j_astore_n X (pc' := 7) (kk := 2) (i := 2) (loc' := [(2, .ref q9), (0, .ref x1), (1, .int x2)]) dL_most_6 rfl rfl (by decide) rfl ?_
    refine j_ldc X (pc' := 9) (v := (-2000000001 : Int32)) wt_2_144 dL_most_7 rfl ?_
    exact j_iret X ⟨_, rfl, hw3⟩ (Nat.le_of_ble_eq_true rfl) (Nat.le_of_ble_eq_true rfl) dL_most_9
  · exact j_iret X ⟨_, rfl, hw2⟩ (Nat.le_of_ble_eq_true rfl) (Nat.le_of_ble_eq_true rfl) dL_most_5
theorem hd_L_tells : yL_tells.cls ≠ "java/lang/invoke/MethodHandle" ∧ yL_tells.cls ≠ "java/lang/invoke/VarHandle" ∧ (parseMethodDescriptor yL_tells.desc).map (fun d => d.parameters.length) = some 2 := ⟨by decide +kernel, by decide +kernel, by decide +kernel⟩
theorem gk_L_tells {own : String} {idx : Nat} (h : Cond.methodLink own idx yL_tells ∈ wsA) : GoodIn wsA (va_wsS own idx yL_tells (.codeWith yL_tells cL_tells 3 (some .int) [(0, 5, 6, 13), (0, 5, 10, 16)] :: wsA)) := gd_S h wt_2_189 wt_1_0 wt_2_190
/-! BitNotationLaw.tells(LBitNotation;I)I -/
theorem dL_tells_0 : decode cL_tells 0 = .ok (.aload_n 0, 1) := by decide +kernel
theorem dL_tells_1 : decode cL_tells 1 = .ok (.iload_n 1, 1) := by decide +kernel
theorem dL_tells_2 : decode cL_tells 2 = .ok (.invokevirtual 47, 3) := by decide +kernel
theorem dL_tells_5 : decode cL_tells 5 = .ok (.ireturn, 1) := by decide +kernel
theorem dL_tells_6 : decode cL_tells 6 = .ok (.astore_n 2, 1) := by decide +kernel
theorem dL_tells_7 : decode cL_tells 7 = .ok (.ldc 15, 2) := by decide +kernel
theorem dL_tells_9 : decode cL_tells 9 = .ok (.ireturn, 1) := by decide +kernel
theorem dL_tells_10 : decode cL_tells 10 = .ok (.astore_n 2, 1) := by decide +kernel
theorem dL_tells_11 : decode cL_tells 11 = .ok (.ldc 18, 2) := by decide +kernel
theorem dL_tells_13 : decode cL_tells 13 = .ok (.ireturn, 1) := by decide +kernel
def wp_L_tells (x1 : Nat) (x2 : Int32) (μ : Mm) (post : Int32 → Mm → Prop) : Prop := (∃ f4, μ x1 = some (.inl (5, f4))) ∧ wp_X6_tell x1 x2 μ (fun r1 μ2 => post r1 μ2) (fun E9 μ9 => (E9 = "java/lang/IllegalArgumentException" ∧ post (-2000000002 : Int32) μ9) ∨ (E9 = "java/lang/IllegalStateException" ∧ post (-2000000003 : Int32) μ9))
set_option maxHeartbeats 4000000 in
set_option maxRecDepth 100000 in
theorem c_L_tells (l : Launch) (G : gG) (A : Nat → Prop) (hl0 : l.stackTraces = false) (x1 : Nat) (x2 : Int32) (μ : Mm) (post : Int32 → Mm → Prop) (h : wp_L_tells x1 x2 μ post) : Met l yL_tells (.codeWith yL_tells cL_tells 3 (some .int) [(0, 5, 6, 13), (0, 5, 10, 16)] :: wsA) (rmL (2) 1 6) (PcG G A μ [.ref x1, .int x2]) (QG G A (pI post)) 1 6 A := by
  refine met_JW (loc := [(0, .ref x1), (1, .int x2)]) (by decide +kernel) (Nat.le_of_ble_eq_true rfl) rfl ?_
  intro p e s m args below meth c X htab
  have X : Cx p l s m args meth c cL_tells 3 (some .int) RL G A := X
  have hw := h
  unfold wp_L_tells at hw
  refine j_aload_n X (pc' := 1) (kk := 0) (i := 0) 0 rfl rfl dL_tells_0 rfl ?_
  refine j_iload_n X (pc' := 2) (kk := 1) (i := 1) 1 rfl rfl dL_tells_1 rfl ?_
  obtain ⟨⟨f4, hm3⟩, hw1⟩ := hw
  refine j_tryVi (As := [.int x2]) (rest := []) X (pc' := 5) (cells' := 1) (slots' := 6) htab (c_X6_tell l G A hl0 x1 x2 μ _ _ hw1) (gk_X6_tell wt_2_191) hd_X6_tell (rmL_fit (k1 := 1) (k := 2) (by omega) (by decide)) hm3 rfl rfl rfl (Nat.le_of_ble_eq_true rfl) dL_tells_2 rfl ⟨Nat.le_of_ble_eq_true rfl, Nat.le_of_ble_eq_true rfl⟩ rfl rfl (fun E9 μ9 hx => ?_) (fun r1 μ2 hw2 => ?_)
  · rcases hx with ⟨rfl, hwx⟩ | ⟨rfl, hwx⟩
    · refine ⟨(List.mem_of_getElem? (i := 0) rfl), [], ⟨0, 5, 6, 13⟩, [⟨0, 5, 10, 16⟩], rfl, fun z hz => absurd hz List.not_mem_nil, rfl, by decide, wt_1_147, fun q9 => ?_⟩
      have hw3 := hwx
      refine j_astore_n X (pc' := 7) (kk := 2) (i := 2) (loc' := [(2, .ref q9), (0, .ref x1), (1, .int x2)]) dL_tells_6 rfl rfl (by decide) rfl ?_
      refine j_ldc X (pc' := 9) (v := (-2000000002 : Int32)) wt_2_111 dL_tells_7 rfl ?_
      exact j_iret X ⟨_, rfl, hw3⟩ (Nat.le_of_ble_eq_true rfl) (Nat.le_of_ble_eq_true rfl) dL_tells_9
    · refine ⟨(List.mem_of_getElem? (i := 1) rfl), [⟨0, 5, 6, 13⟩], ⟨0, 5, 10, 16⟩, [], rfl, List.forall_mem_cons.mpr ⟨⟨by decide, "java/lang/IllegalArgumentException", (List.mem_of_getElem? (i := 0) rfl), by decide, wt_1_147⟩, fun z hz => absurd hz List.not_mem_nil⟩, rfl, by decide, wt_1_148, fun q9 => ?_⟩
      have hw4 := hwx
      refine j_astore_n X (pc' := 11) (kk := 2) (i := 2) (loc' := [(2, .ref q9), (0, .ref x1), (1, .int x2)]) dL_tells_10 rfl rfl (by decide) rfl ?_
      refine j_ldc X (pc' := 13) (v := (-2000000003 : Int32)) wt_2_112 dL_tells_11 rfl ?_
      exact j_iret X ⟨_, rfl, hw4⟩ (Nat.le_of_ble_eq_true rfl) (Nat.le_of_ble_eq_true rfl) dL_tells_13
  · exact j_iret X ⟨_, rfl, hw2⟩ (Nat.le_of_ble_eq_true rfl) (Nat.le_of_ble_eq_true rfl) dL_tells_5
theorem hd_L_told : yL_told.cls ≠ "java/lang/invoke/MethodHandle" ∧ yL_told.cls ≠ "java/lang/invoke/VarHandle" ∧ (parseMethodDescriptor yL_told.desc).map (fun d => d.parameters.length) = some 2 := ⟨by decide +kernel, by decide +kernel, by decide +kernel⟩
theorem gk_L_told {own : String} {idx : Nat} (h : Cond.methodLink own idx yL_told ∈ wsA) : GoodIn wsA (va_wsS own idx yL_told (.codeWith yL_told cL_told 3 (some .int) [(0, 5, 6, 23)] :: wsA)) := gd_S h wt_2_206 wt_1_0 wt_2_207
/-! BitNotationLaw.told(LBitNotation;I)I -/
theorem dL_told_0 : decode cL_told 0 = .ok (.aload_n 0, 1) := by decide +kernel
theorem dL_told_1 : decode cL_told 1 = .ok (.iload_n 1, 1) := by decide +kernel
theorem dL_told_2 : decode cL_told 2 = .ok (.invokevirtual 50, 3) := by decide +kernel
theorem dL_told_5 : decode cL_told 5 = .ok (.ireturn, 1) := by decide +kernel
theorem dL_told_6 : decode cL_told 6 = .ok (.astore_n 2, 1) := by decide +kernel
theorem dL_told_7 : decode cL_told 7 = .ok (.ldc 25, 2) := by decide +kernel
theorem dL_told_9 : decode cL_told 9 = .ok (.ireturn, 1) := by decide +kernel
def wp_L_told (x1 : Nat) (x2 : Int32) (μ : Mm) (post : Int32 → Mm → Prop) : Prop := (∃ f4, μ x1 = some (.inl (5, f4))) ∧ wp_X6_told x1 x2 μ (fun r1 μ2 => post r1 μ2) (fun E9 μ9 => (E9 = "java/lang/IndexOutOfBoundsException" ∧ post (-2000000001 : Int32) μ9))
set_option maxHeartbeats 4000000 in
set_option maxRecDepth 100000 in
theorem c_L_told (l : Launch) (G : gG) (A : Nat → Prop) (hl0 : l.stackTraces = false) (x1 : Nat) (x2 : Int32) (μ : Mm) (post : Int32 → Mm → Prop) (h : wp_L_told x1 x2 μ post) : Met l yL_told (.codeWith yL_told cL_told 3 (some .int) [(0, 5, 6, 23)] :: wsA) (rmL (2) 1 6) (PcG G A μ [.ref x1, .int x2]) (QG G A (pI post)) 1 6 A := by
  refine met_JW (loc := [(0, .ref x1), (1, .int x2)]) (by decide +kernel) (Nat.le_of_ble_eq_true rfl) rfl ?_
  intro p e s m args below meth c X htab
  have X : Cx p l s m args meth c cL_told 3 (some .int) RL G A := X
  have hw := h
  unfold wp_L_told at hw
  refine j_aload_n X (pc' := 1) (kk := 0) (i := 0) 0 rfl rfl dL_told_0 rfl ?_
  refine j_iload_n X (pc' := 2) (kk := 1) (i := 1) 1 rfl rfl dL_told_1 rfl ?_
  obtain ⟨⟨f4, hm3⟩, hw1⟩ := hw
  refine j_tryVi (As := [.int x2]) (rest := []) X (pc' := 5) (cells' := 1) (slots' := 6) htab (c_X6_told l G A hl0 x1 x2 μ _ _ hw1) (gk_X6_told wt_2_208) hd_X6_told (rmL_fit (k1 := 1) (k := 2) (by omega) (by decide)) hm3 rfl rfl rfl (Nat.le_of_ble_eq_true rfl) dL_told_2 rfl ⟨Nat.le_of_ble_eq_true rfl, Nat.le_of_ble_eq_true rfl⟩ rfl rfl (fun E9 μ9 hx => ?_) (fun r1 μ2 hw2 => ?_)
  · obtain ⟨rfl, hwx⟩ := hx
    refine ⟨(List.mem_of_getElem? (i := 2) rfl), [], ⟨0, 5, 6, 23⟩, [], rfl, fun z hz => absurd hz List.not_mem_nil, rfl, by decide, wt_2_116, fun q9 => ?_⟩
    have hw3 := hwx
    refine j_astore_n X (pc' := 7) (kk := 2) (i := 2) (loc' := [(2, .ref q9), (0, .ref x1), (1, .int x2)]) dL_told_6 rfl rfl (by decide) rfl ?_
    refine j_ldc X (pc' := 9) (v := (-2000000001 : Int32)) wt_2_144 dL_told_7 rfl ?_
    exact j_iret X ⟨_, rfl, hw3⟩ (Nat.le_of_ble_eq_true rfl) (Nat.le_of_ble_eq_true rfl) dL_told_9
  · exact j_iret X ⟨_, rfl, hw2⟩ (Nat.le_of_ble_eq_true rfl) (Nat.le_of_ble_eq_true rfl) dL_told_5
theorem hd_L_wrong : yL_wrong.cls ≠ "java/lang/invoke/MethodHandle" ∧ yL_wrong.cls ≠ "java/lang/invoke/VarHandle" ∧ (parseMethodDescriptor yL_wrong.desc).map (fun d => d.parameters.length) = some 2 := ⟨by decide +kernel, by decide +kernel, by decide +kernel⟩
theorem gk_L_wrong {own : String} {idx : Nat} (h : Cond.methodLink own idx yL_wrong ∈ wsA) : GoodIn wsA (va_wsS own idx yL_wrong (.codeWith yL_wrong cL_wrong 3 (some .int) [(0, 5, 6, 23)] :: wsA)) := gd_S h wt_2_226 wt_1_0 wt_2_227
/-! BitNotationLaw.wrong(LBitNotation;I)I -/
theorem dL_wrong_0 : decode cL_wrong 0 = .ok (.aload_n 0, 1) := by decide +kernel
theorem dL_wrong_1 : decode cL_wrong 1 = .ok (.iload_n 1, 1) := by decide +kernel
theorem dL_wrong_2 : decode cL_wrong 2 = .ok (.invokevirtual 53, 3) := by decide +kernel
theorem dL_wrong_5 : decode cL_wrong 5 = .ok (.ireturn, 1) := by decide +kernel
theorem dL_wrong_6 : decode cL_wrong 6 = .ok (.astore_n 2, 1) := by decide +kernel
theorem dL_wrong_7 : decode cL_wrong 7 = .ok (.ldc 25, 2) := by decide +kernel
theorem dL_wrong_9 : decode cL_wrong 9 = .ok (.ireturn, 1) := by decide +kernel
def wp_L_wrong (kd : Nat → Nat) (x1 : Nat) (x2 : Int32) (μ : Mm) (post : Int32 → Mm → Prop) : Prop := (∃ f4, μ x1 = some (.inl (5, f4))) ∧ wp_X6_wrongAt x1 kd x2 μ (fun r1 μ2 => post r1 μ2) (fun E9 μ9 => (E9 = "java/lang/IndexOutOfBoundsException" ∧ post (-2000000001 : Int32) μ9))
set_option maxHeartbeats 4000000 in
set_option maxRecDepth 100000 in
theorem c_L_wrong (l : Launch) (G : gG) (A : Nat → Prop) (hl0 : l.stackTraces = false) (kd : Nat → Nat) (hkd : G.2.2 = kd) (x1 : Nat) (x2 : Int32) (μ : Mm) (post : Int32 → Mm → Prop) (h : wp_L_wrong kd x1 x2 μ post) : Met l yL_wrong (.codeWith yL_wrong cL_wrong 3 (some .int) [(0, 5, 6, 23)] :: wsA) (rmL (77) 1 6) (PcG G A μ [.ref x1, .int x2]) (QG G A (pI post)) 1 6 A := by
  refine met_JW (loc := [(0, .ref x1), (1, .int x2)]) (by decide +kernel) (Nat.le_of_ble_eq_true rfl) rfl ?_
  intro p e s m args below meth c X htab
  have X : Cx p l s m args meth c cL_wrong 3 (some .int) RL G A := X
  have hw := h
  unfold wp_L_wrong at hw
  refine j_aload_n X (pc' := 1) (kk := 0) (i := 0) 0 rfl rfl dL_wrong_0 rfl ?_
  refine j_iload_n X (pc' := 2) (kk := 1) (i := 1) 1 rfl rfl dL_wrong_1 rfl ?_
  obtain ⟨⟨f4, hm3⟩, hw1⟩ := hw
  refine j_tryVi (As := [.int x2]) (rest := []) X (pc' := 5) (cells' := 1) (slots' := 6) htab (c_X6_wrongAt l G A hl0 kd hkd x1 x2 μ _ _ hw1) (gk_X6_wrongAt wt_2_228) hd_X6_wrongAt (rmL_fit (k1 := 76) (k := 77) (by omega) (by decide)) hm3 rfl rfl rfl (Nat.le_of_ble_eq_true rfl) dL_wrong_2 rfl ⟨Nat.le_of_ble_eq_true rfl, Nat.le_of_ble_eq_true rfl⟩ rfl rfl (fun E9 μ9 hx => ?_) (fun r1 μ2 hw2 => ?_)
  · obtain ⟨rfl, hwx⟩ := hx
    refine ⟨(List.mem_of_getElem? (i := 2) rfl), [], ⟨0, 5, 6, 23⟩, [], rfl, fun z hz => absurd hz List.not_mem_nil, rfl, by decide, wt_2_116, fun q9 => ?_⟩
    have hw3 := hwx
    refine j_astore_n X (pc' := 7) (kk := 2) (i := 2) (loc' := [(2, .ref q9), (0, .ref x1), (1, .int x2)]) dL_wrong_6 rfl rfl (by decide) rfl ?_
    refine j_ldc X (pc' := 9) (v := (-2000000001 : Int32)) wt_2_144 dL_wrong_7 rfl ?_
    exact j_iret X ⟨_, rfl, hw3⟩ (Nat.le_of_ble_eq_true rfl) (Nat.le_of_ble_eq_true rfl) dL_wrong_9
  · exact j_iret X ⟨_, rfl, hw2⟩ (Nat.le_of_ble_eq_true rfl) (Nat.le_of_ble_eq_true rfl) dL_wrong_5
theorem hd_L_writes : yL_writes.cls ≠ "java/lang/invoke/MethodHandle" ∧ yL_writes.cls ≠ "java/lang/invoke/VarHandle" ∧ (parseMethodDescriptor yL_writes.desc).map (fun d => d.parameters.length) = some 2 := ⟨by decide +kernel, by decide +kernel, by decide +kernel⟩
theorem gk_L_writes {own : String} {idx : Nat} (h : Cond.methodLink own idx yL_writes ∈ wsA) : GoodIn wsA (va_wsS own idx yL_writes (.codeWith yL_writes cL_writes 3 (some .int) [(0, 5, 6, 23), (0, 5, 10, 16)] :: wsA)) := gd_S h wt_3_41 wt_1_0 wt_3_42
/-! BitNotationLaw.writes(LBitNotation;I)I -/
theorem dL_writes_0 : decode cL_writes 0 = .ok (.aload_n 0, 1) := by decide +kernel
theorem dL_writes_1 : decode cL_writes 1 = .ok (.iload_n 1, 1) := by decide +kernel
theorem dL_writes_2 : decode cL_writes 2 = .ok (.invokevirtual 56, 3) := by decide +kernel
theorem dL_writes_5 : decode cL_writes 5 = .ok (.ireturn, 1) := by decide +kernel
theorem dL_writes_6 : decode cL_writes 6 = .ok (.astore_n 2, 1) := by decide +kernel
theorem dL_writes_7 : decode cL_writes 7 = .ok (.ldc 25, 2) := by decide +kernel
theorem dL_writes_9 : decode cL_writes 9 = .ok (.ireturn, 1) := by decide +kernel
theorem dL_writes_10 : decode cL_writes 10 = .ok (.astore_n 2, 1) := by decide +kernel
theorem dL_writes_11 : decode cL_writes 11 = .ok (.ldc 18, 2) := by decide +kernel
theorem dL_writes_13 : decode cL_writes 13 = .ok (.ireturn, 1) := by decide +kernel
def wp_L_writes (kd : Nat → Nat) (x1 : Nat) (x2 : Int32) (μ : Mm) (post : Int32 → Mm → Prop) : Prop := (∃ f4, μ x1 = some (.inl (5, f4))) ∧ wp_X6_write x1 kd x2 μ (fun r1 μ2 => post r1 μ2) (fun E9 μ9 => (E9 = "java/lang/IndexOutOfBoundsException" ∧ post (-2000000001 : Int32) μ9) ∨ (E9 = "java/lang/IllegalStateException" ∧ post (-2000000003 : Int32) μ9))
set_option maxHeartbeats 4000000 in
set_option maxRecDepth 100000 in
theorem c_L_writes (l : Launch) (G : gG) (A : Nat → Prop) (hl0 : l.stackTraces = false) (kd : Nat → Nat) (hkd : G.2.2 = kd) (x1 : Nat) (x2 : Int32) (μ : Mm) (post : Int32 → Mm → Prop) (h : wp_L_writes kd x1 x2 μ post) : Met l yL_writes (.codeWith yL_writes cL_writes 3 (some .int) [(0, 5, 6, 23), (0, 5, 10, 16)] :: wsA) (rmL (77) 2 12) (PcG G A μ [.ref x1, .int x2]) (QG G A (pI post)) 2 12 A := by
  refine met_JW (loc := [(0, .ref x1), (1, .int x2)]) (by decide +kernel) (Nat.le_of_ble_eq_true rfl) rfl ?_
  intro p e s m args below meth c X htab
  have X : Cx p l s m args meth c cL_writes 3 (some .int) RL G A := X
  have hw := h
  unfold wp_L_writes at hw
  refine j_aload_n X (pc' := 1) (kk := 0) (i := 0) 0 rfl rfl dL_writes_0 rfl ?_
  refine j_iload_n X (pc' := 2) (kk := 1) (i := 1) 1 rfl rfl dL_writes_1 rfl ?_
  obtain ⟨⟨f4, hm3⟩, hw1⟩ := hw
  refine j_tryVi (As := [.int x2]) (rest := []) X (pc' := 5) (cells' := 2) (slots' := 12) htab (c_X6_write l G A hl0 kd hkd x1 x2 μ _ _ hw1) (gk_X6_write wt_3_43) hd_X6_write (rmL_fit (k1 := 76) (k := 77) (by omega) (by decide)) hm3 rfl rfl rfl (Nat.le_of_ble_eq_true rfl) dL_writes_2 rfl ⟨Nat.le_of_ble_eq_true rfl, Nat.le_of_ble_eq_true rfl⟩ rfl rfl (fun E9 μ9 hx => ?_) (fun r1 μ2 hw2 => ?_)
  · rcases hx with ⟨rfl, hwx⟩ | ⟨rfl, hwx⟩
    · refine ⟨(List.mem_of_getElem? (i := 2) rfl), [], ⟨0, 5, 6, 23⟩, [⟨0, 5, 10, 16⟩], rfl, fun z hz => absurd hz List.not_mem_nil, rfl, by decide, wt_2_116, fun q9 => ?_⟩
      have hw3 := hwx
      refine j_astore_n X (pc' := 7) (kk := 2) (i := 2) (loc' := [(2, .ref q9), (0, .ref x1), (1, .int x2)]) dL_writes_6 rfl rfl (by decide) rfl ?_
      refine j_ldc X (pc' := 9) (v := (-2000000001 : Int32)) wt_2_144 dL_writes_7 rfl ?_
      exact j_iret X ⟨_, rfl, hw3⟩ (Nat.le_of_ble_eq_true rfl) (Nat.le_of_ble_eq_true rfl) dL_writes_9
    · refine ⟨(List.mem_of_getElem? (i := 1) rfl), [⟨0, 5, 6, 23⟩], ⟨0, 5, 10, 16⟩, [], rfl, List.forall_mem_cons.mpr ⟨⟨by decide, "java/lang/IndexOutOfBoundsException", (List.mem_of_getElem? (i := 2) rfl), by decide, wt_2_116⟩, fun z hz => absurd hz List.not_mem_nil⟩, rfl, by decide, wt_1_148, fun q9 => ?_⟩
      have hw4 := hwx
      refine j_astore_n X (pc' := 11) (kk := 2) (i := 2) (loc' := [(2, .ref q9), (0, .ref x1), (1, .int x2)]) dL_writes_10 rfl rfl (by decide) rfl ?_
      refine j_ldc X (pc' := 13) (v := (-2000000003 : Int32)) wt_2_112 dL_writes_11 rfl ?_
      exact j_iret X ⟨_, rfl, hw4⟩ (Nat.le_of_ble_eq_true rfl) (Nat.le_of_ble_eq_true rfl) dL_writes_13
  · exact j_iret X ⟨_, rfl, hw2⟩ (Nat.le_of_ble_eq_true rfl) (Nat.le_of_ble_eq_true rfl) dL_writes_5
theorem hd_L_bit : yL_bit.cls ≠ "java/lang/invoke/MethodHandle" ∧ yL_bit.cls ≠ "java/lang/invoke/VarHandle" ∧ (parseMethodDescriptor yL_bit.desc).map (fun d => d.parameters.length) = some 2 := ⟨by decide +kernel, by decide +kernel, by decide +kernel⟩
theorem gk_L_bit {own : String} {idx : Nat} (h : Cond.methodLink own idx yL_bit ∈ wsA) : GoodIn wsA (va_wsS own idx yL_bit (.codeWith yL_bit cL_bit 3 (some .int) [(0, 5, 6, 23)] :: wsA)) := gd_S h wt_3_57 wt_1_0 wt_3_58
/-! BitNotationLaw.bit(LBitNotation;I)I -/
theorem dL_bit_0 : decode cL_bit 0 = .ok (.aload_n 0, 1) := by decide +kernel
theorem dL_bit_1 : decode cL_bit 1 = .ok (.iload_n 1, 1) := by decide +kernel
theorem dL_bit_2 : decode cL_bit 2 = .ok (.invokevirtual 59, 3) := by decide +kernel
theorem dL_bit_5 : decode cL_bit 5 = .ok (.ireturn, 1) := by decide +kernel
theorem dL_bit_6 : decode cL_bit 6 = .ok (.astore_n 2, 1) := by decide +kernel
theorem dL_bit_7 : decode cL_bit 7 = .ok (.ldc 25, 2) := by decide +kernel
theorem dL_bit_9 : decode cL_bit 9 = .ok (.ireturn, 1) := by decide +kernel
def wp_L_bit (x1 : Nat) (x2 : Int32) (μ : Mm) (post : Int32 → Mm → Prop) : Prop := (∃ f4, μ x1 = some (.inl (5, f4))) ∧ wp_X6_bit x1 x2 μ (fun r1 μ2 => post r1 μ2) (fun E9 μ9 => (E9 = "java/lang/IndexOutOfBoundsException" ∧ post (-2000000001 : Int32) μ9))
set_option maxHeartbeats 4000000 in
set_option maxRecDepth 100000 in
theorem c_L_bit (l : Launch) (G : gG) (A : Nat → Prop) (hl0 : l.stackTraces = false) (x1 : Nat) (x2 : Int32) (μ : Mm) (post : Int32 → Mm → Prop) (h : wp_L_bit x1 x2 μ post) : Met l yL_bit (.codeWith yL_bit cL_bit 3 (some .int) [(0, 5, 6, 23)] :: wsA) (rmL (2) 1 6) (PcG G A μ [.ref x1, .int x2]) (QG G A (pI post)) 1 6 A := by
  refine met_JW (loc := [(0, .ref x1), (1, .int x2)]) (by decide +kernel) (Nat.le_of_ble_eq_true rfl) rfl ?_
  intro p e s m args below meth c X htab
  have X : Cx p l s m args meth c cL_bit 3 (some .int) RL G A := X
  have hw := h
  unfold wp_L_bit at hw
  refine j_aload_n X (pc' := 1) (kk := 0) (i := 0) 0 rfl rfl dL_bit_0 rfl ?_
  refine j_iload_n X (pc' := 2) (kk := 1) (i := 1) 1 rfl rfl dL_bit_1 rfl ?_
  obtain ⟨⟨f4, hm3⟩, hw1⟩ := hw
  refine j_tryVi (As := [.int x2]) (rest := []) X (pc' := 5) (cells' := 1) (slots' := 6) htab (c_X6_bit l G A hl0 x1 x2 μ _ _ hw1) (gk_X6_bit wt_3_59) hd_X6_bit (rmL_fit (k1 := 1) (k := 2) (by omega) (by decide)) hm3 rfl rfl rfl (Nat.le_of_ble_eq_true rfl) dL_bit_2 rfl ⟨Nat.le_of_ble_eq_true rfl, Nat.le_of_ble_eq_true rfl⟩ rfl rfl (fun E9 μ9 hx => ?_) (fun r1 μ2 hw2 => ?_)
  · obtain ⟨rfl, hwx⟩ := hx
    refine ⟨(List.mem_of_getElem? (i := 2) rfl), [], ⟨0, 5, 6, 23⟩, [], rfl, fun z hz => absurd hz List.not_mem_nil, rfl, by decide, wt_2_116, fun q9 => ?_⟩
    have hw3 := hwx
    refine j_astore_n X (pc' := 7) (kk := 2) (i := 2) (loc' := [(2, .ref q9), (0, .ref x1), (1, .int x2)]) dL_bit_6 rfl rfl (by decide) rfl ?_
    refine j_ldc X (pc' := 9) (v := (-2000000001 : Int32)) wt_2_144 dL_bit_7 rfl ?_
    exact j_iret X ⟨_, rfl, hw3⟩ (Nat.le_of_ble_eq_true rfl) (Nat.le_of_ble_eq_true rfl) dL_bit_9
  · exact j_iret X ⟨_, rfl, hw2⟩ (Nat.le_of_ble_eq_true rfl) (Nat.le_of_ble_eq_true rfl) dL_bit_5
theorem hd_L_flips : yL_flips.cls ≠ "java/lang/invoke/MethodHandle" ∧ yL_flips.cls ≠ "java/lang/invoke/VarHandle" ∧ (parseMethodDescriptor yL_flips.desc).map (fun d => d.parameters.length) = some 2 := ⟨by decide +kernel, by decide +kernel, by decide +kernel⟩
theorem gk_L_flips {own : String} {idx : Nat} (h : Cond.methodLink own idx yL_flips ∈ wsA) : GoodIn wsA (va_wsS own idx yL_flips (.codeWith yL_flips cL_flips 3 (some .int) [(0, 5, 6, 23)] :: wsA)) := gd_S h wt_3_65 wt_1_0 wt_3_66
/-! BitNotationLaw.flips(LBitNotation;I)I -/
theorem dL_flips_0 : decode cL_flips 0 = .ok (.aload_n 0, 1) := by decide +kernel
theorem dL_flips_1 : decode cL_flips 1 = .ok (.iload_n 1, 1) := by decide +kernel
theorem dL_flips_2 : decode cL_flips 2 = .ok (.invokevirtual 62, 3) := by decide +kernel
theorem dL_flips_5 : decode cL_flips 5 = .ok (.ireturn, 1) := by decide +kernel
theorem dL_flips_6 : decode cL_flips 6 = .ok (.astore_n 2, 1) := by decide +kernel
theorem dL_flips_7 : decode cL_flips 7 = .ok (.ldc 25, 2) := by decide +kernel
theorem dL_flips_9 : decode cL_flips 9 = .ok (.ireturn, 1) := by decide +kernel
def wp_L_flips (x1 : Nat) (x2 : Int32) (μ : Mm) (post : Int32 → Mm → Prop) : Prop := (∃ f4, μ x1 = some (.inl (5, f4))) ∧ wp_X6_flip x1 x2 μ (fun r1 μ2 => post r1 μ2) (fun E9 μ9 => (E9 = "java/lang/IndexOutOfBoundsException" ∧ post (-2000000001 : Int32) μ9))
set_option maxHeartbeats 4000000 in
set_option maxRecDepth 100000 in
theorem c_L_flips (l : Launch) (G : gG) (A : Nat → Prop) (hl0 : l.stackTraces = false) (x1 : Nat) (x2 : Int32) (μ : Mm) (post : Int32 → Mm → Prop) (h : wp_L_flips x1 x2 μ post) : Met l yL_flips (.codeWith yL_flips cL_flips 3 (some .int) [(0, 5, 6, 23)] :: wsA) (rmL (3) 1 6) (PcG G A μ [.ref x1, .int x2]) (QG G A (pI post)) 1 6 A := by
  refine met_JW (loc := [(0, .ref x1), (1, .int x2)]) (by decide +kernel) (Nat.le_of_ble_eq_true rfl) rfl ?_
  intro p e s m args below meth c X htab
  have X : Cx p l s m args meth c cL_flips 3 (some .int) RL G A := X
  have hw := h
  unfold wp_L_flips at hw
  refine j_aload_n X (pc' := 1) (kk := 0) (i := 0) 0 rfl rfl dL_flips_0 rfl ?_
  refine j_iload_n X (pc' := 2) (kk := 1) (i := 1) 1 rfl rfl dL_flips_1 rfl ?_
  obtain ⟨⟨f4, hm3⟩, hw1⟩ := hw
  refine j_tryVi (As := [.int x2]) (rest := []) X (pc' := 5) (cells' := 1) (slots' := 6) htab (c_X6_flip l G A hl0 x1 x2 μ _ _ hw1) (gk_X6_flip wt_3_67) hd_X6_flip (rmL_fit (k1 := 2) (k := 3) (by omega) (by decide)) hm3 rfl rfl rfl (Nat.le_of_ble_eq_true rfl) dL_flips_2 rfl ⟨Nat.le_of_ble_eq_true rfl, Nat.le_of_ble_eq_true rfl⟩ rfl rfl (fun E9 μ9 hx => ?_) (fun r1 μ2 hw2 => ?_)
  · obtain ⟨rfl, hwx⟩ := hx
    refine ⟨(List.mem_of_getElem? (i := 2) rfl), [], ⟨0, 5, 6, 23⟩, [], rfl, fun z hz => absurd hz List.not_mem_nil, rfl, by decide, wt_2_116, fun q9 => ?_⟩
    have hw3 := hwx
    refine j_astore_n X (pc' := 7) (kk := 2) (i := 2) (loc' := [(2, .ref q9), (0, .ref x1), (1, .int x2)]) dL_flips_6 rfl rfl (by decide) rfl ?_
    refine j_ldc X (pc' := 9) (v := (-2000000001 : Int32)) wt_2_144 dL_flips_7 rfl ?_
    exact j_iret X ⟨_, rfl, hw3⟩ (Nat.le_of_ble_eq_true rfl) (Nat.le_of_ble_eq_true rfl) dL_flips_9
  · exact j_iret X ⟨_, rfl, hw2⟩ (Nat.le_of_ble_eq_true rfl) (Nat.le_of_ble_eq_true rfl) dL_flips_5
theorem hd_L_cuts : yL_cuts.cls ≠ "java/lang/invoke/MethodHandle" ∧ yL_cuts.cls ≠ "java/lang/invoke/VarHandle" ∧ (parseMethodDescriptor yL_cuts.desc).map (fun d => d.parameters.length) = some 2 := ⟨by decide +kernel, by decide +kernel, by decide +kernel⟩
theorem gk_L_cuts {own : String} {idx : Nat} (h : Cond.methodLink own idx yL_cuts ∈ wsA) : GoodIn wsA (va_wsS own idx yL_cuts (.codeWith yL_cuts cL_cuts 3 (some .int) [(0, 5, 6, 13)] :: wsA)) := gd_S h wt_3_73 wt_1_0 wt_3_74
/-! BitNotationLaw.cuts(LBitNotation;I)I -/
theorem dL_cuts_0 : decode cL_cuts 0 = .ok (.aload_n 0, 1) := by decide +kernel
theorem dL_cuts_1 : decode cL_cuts 1 = .ok (.iload_n 1, 1) := by decide +kernel
theorem dL_cuts_2 : decode cL_cuts 2 = .ok (.invokevirtual 65, 3) := by decide +kernel
theorem dL_cuts_5 : decode cL_cuts 5 = .ok (.ireturn, 1) := by decide +kernel
theorem dL_cuts_6 : decode cL_cuts 6 = .ok (.astore_n 2, 1) := by decide +kernel
theorem dL_cuts_7 : decode cL_cuts 7 = .ok (.ldc 15, 2) := by decide +kernel
theorem dL_cuts_9 : decode cL_cuts 9 = .ok (.ireturn, 1) := by decide +kernel
def wp_L_cuts (x1 : Nat) (x2 : Int32) (μ : Mm) (post : Int32 → Mm → Prop) : Prop := (∃ f4, μ x1 = some (.inl (5, f4))) ∧ wp_X6_cut x1 x2 μ (fun r1 μ2 => post r1 μ2) (fun E9 μ9 => (E9 = "java/lang/IllegalArgumentException" ∧ post (-2000000002 : Int32) μ9))
set_option maxHeartbeats 4000000 in
set_option maxRecDepth 100000 in
theorem c_L_cuts (l : Launch) (G : gG) (A : Nat → Prop) (hl0 : l.stackTraces = false) (x1 : Nat) (x2 : Int32) (μ : Mm) (post : Int32 → Mm → Prop) (h : wp_L_cuts x1 x2 μ post) : Met l yL_cuts (.codeWith yL_cuts cL_cuts 3 (some .int) [(0, 5, 6, 13)] :: wsA) (rmL (2) 1 6) (PcG G A μ [.ref x1, .int x2]) (QG G A (pI post)) 1 6 A := by
  refine met_JW (loc := [(0, .ref x1), (1, .int x2)]) (by decide +kernel) (Nat.le_of_ble_eq_true rfl) rfl ?_
  intro p e s m args below meth c X htab
  have X : Cx p l s m args meth c cL_cuts 3 (some .int) RL G A := X
  have hw := h
  unfold wp_L_cuts at hw
  refine j_aload_n X (pc' := 1) (kk := 0) (i := 0) 0 rfl rfl dL_cuts_0 rfl ?_
  refine j_iload_n X (pc' := 2) (kk := 1) (i := 1) 1 rfl rfl dL_cuts_1 rfl ?_
  obtain ⟨⟨f4, hm3⟩, hw1⟩ := hw
  refine j_tryVi (As := [.int x2]) (rest := []) X (pc' := 5) (cells' := 1) (slots' := 6) htab (c_X6_cut l G A hl0 x1 x2 μ _ _ hw1) (gk_X6_cut wt_3_75) hd_X6_cut (rmL_fit (k1 := 1) (k := 2) (by omega) (by decide)) hm3 rfl rfl rfl (Nat.le_of_ble_eq_true rfl) dL_cuts_2 rfl ⟨Nat.le_of_ble_eq_true rfl, Nat.le_of_ble_eq_true rfl⟩ rfl rfl (fun E9 μ9 hx => ?_) (fun r1 μ2 hw2 => ?_)
  · obtain ⟨rfl, hwx⟩ := hx
    refine ⟨(List.mem_of_getElem? (i := 0) rfl), [], ⟨0, 5, 6, 13⟩, [], rfl, fun z hz => absurd hz List.not_mem_nil, rfl, by decide, wt_1_147, fun q9 => ?_⟩
    have hw3 := hwx
    refine j_astore_n X (pc' := 7) (kk := 2) (i := 2) (loc' := [(2, .ref q9), (0, .ref x1), (1, .int x2)]) dL_cuts_6 rfl rfl (by decide) rfl ?_
    refine j_ldc X (pc' := 9) (v := (-2000000002 : Int32)) wt_2_111 dL_cuts_7 rfl ?_
    exact j_iret X ⟨_, rfl, hw3⟩ (Nat.le_of_ble_eq_true rfl) (Nat.le_of_ble_eq_true rfl) dL_cuts_9
  · exact j_iret X ⟨_, rfl, hw2⟩ (Nat.le_of_ble_eq_true rfl) (Nat.le_of_ble_eq_true rfl) dL_cuts_5
theorem hd_L_reads : yL_reads.cls ≠ "java/lang/invoke/MethodHandle" ∧ yL_reads.cls ≠ "java/lang/invoke/VarHandle" ∧ (parseMethodDescriptor yL_reads.desc).map (fun d => d.parameters.length) = some 3 := ⟨by decide +kernel, by decide +kernel, by decide +kernel⟩
theorem gk_L_reads {own : String} {idx : Nat} (h : Cond.methodLink own idx yL_reads ∈ wsA) : GoodIn wsA (va_wsS own idx yL_reads (.codeWith yL_reads cL_reads 4 (some .int) [(0, 6, 7, 23), (0, 6, 11, 13), (0, 6, 15, 16)] :: wsA)) := gd_S h wt_3_82 wt_1_0 wt_3_83
/-! BitNotationLaw.reads(LBitNotation;II)I -/
theorem dL_reads_0 : decode cL_reads 0 = .ok (.aload_n 0, 1) := by decide +kernel
theorem dL_reads_1 : decode cL_reads 1 = .ok (.iload_n 1, 1) := by decide +kernel
theorem dL_reads_2 : decode cL_reads 2 = .ok (.iload_n 2, 1) := by decide +kernel
theorem dL_reads_3 : decode cL_reads 3 = .ok (.invokevirtual 68, 3) := by decide +kernel
theorem dL_reads_6 : decode cL_reads 6 = .ok (.ireturn, 1) := by decide +kernel
theorem dL_reads_7 : decode cL_reads 7 = .ok (.astore_n 3, 1) := by decide +kernel
theorem dL_reads_8 : decode cL_reads 8 = .ok (.ldc 25, 2) := by decide +kernel
theorem dL_reads_10 : decode cL_reads 10 = .ok (.ireturn, 1) := by decide +kernel
theorem dL_reads_11 : decode cL_reads 11 = .ok (.astore_n 3, 1) := by decide +kernel
theorem dL_reads_12 : decode cL_reads 12 = .ok (.ldc 15, 2) := by decide +kernel
theorem dL_reads_14 : decode cL_reads 14 = .ok (.ireturn, 1) := by decide +kernel
theorem dL_reads_15 : decode cL_reads 15 = .ok (.astore_n 3, 1) := by decide +kernel
theorem dL_reads_16 : decode cL_reads 16 = .ok (.ldc 18, 2) := by decide +kernel
theorem dL_reads_18 : decode cL_reads 18 = .ok (.ireturn, 1) := by decide +kernel
def wp_L_reads (kd : Nat → Nat) (x1 : Nat) (x2 : Int32) (x3 : Int32) (μ : Mm) (post : Int32 → Mm → Prop) : Prop := (∃ f4, μ x1 = some (.inl (5, f4))) ∧ wp_X6_read x1 kd x2 x3 μ (fun r1 μ2 => post r1 μ2) (fun E9 μ9 => (E9 = "java/lang/IndexOutOfBoundsException" ∧ post (-2000000001 : Int32) μ9) ∨ (E9 = "java/lang/IllegalArgumentException" ∧ post (-2000000002 : Int32) μ9) ∨ (E9 = "java/lang/IllegalStateException" ∧ post (-2000000003 : Int32) μ9))
set_option maxHeartbeats 4000000 in
set_option maxRecDepth 100000 in
theorem c_L_reads (l : Launch) (G : gG) (A : Nat → Prop) (hl0 : l.stackTraces = false) (kd : Nat → Nat) (hkd : G.2.2 = kd) (x1 : Nat) (x2 : Int32) (x3 : Int32) (μ : Mm) (post : Int32 → Mm → Prop) (h : wp_L_reads kd x1 x2 x3 μ post) : Met l yL_reads (.codeWith yL_reads cL_reads 4 (some .int) [(0, 6, 7, 23), (0, 6, 11, 13), (0, 6, 15, 16)] :: wsA) (rmL (78) 3 18) (PcG G A μ [.ref x1, .int x2, .int x3]) (QG G A (pI post)) 3 18 A := by
  refine met_JW (loc := [(0, .ref x1), (1, .int x2), (2, .int x3)]) (by decide +kernel) (Nat.le_of_ble_eq_true rfl) rfl ?_
  intro p e s m args below meth c X htab
  have X : Cx p l s m args meth c cL_reads 4 (some .int) RL G A := X
  have hw := h
  unfold wp_L_reads at hw
  refine j_aload_n X (pc' := 1) (kk := 0) (i := 0) 0 rfl rfl dL_reads_0 rfl ?_
  refine j_iload_n X (pc' := 2) (kk := 1) (i := 1) 1 rfl rfl dL_reads_1 rfl ?_
  refine j_iload_n X (pc' := 3) (kk := 2) (i := 2) 2 rfl rfl dL_reads_2 rfl ?_
  obtain ⟨⟨f4, hm3⟩, hw1⟩ := hw
  refine j_tryVi (As := [.int x2, .int x3]) (rest := []) X (pc' := 6) (cells' := 3) (slots' := 18) htab (c_X6_read l G A hl0 kd hkd x1 x2 x3 μ _ _ hw1) (gk_X6_read wt_3_84) hd_X6_read (rmL_fit (k1 := 77) (k := 78) (by omega) (by decide)) hm3 rfl rfl rfl (Nat.le_of_ble_eq_true rfl) dL_reads_3 rfl ⟨Nat.le_of_ble_eq_true rfl, Nat.le_of_ble_eq_true rfl⟩ rfl rfl (fun E9 μ9 hx => ?_) (fun r1 μ2 hw2 => ?_)
  · rcases hx with ⟨rfl, hwx⟩ | ⟨rfl, hwx⟩ | ⟨rfl, hwx⟩
    · refine ⟨(List.mem_of_getElem? (i := 2) rfl), [], ⟨0, 6, 7, 23⟩, [⟨0, 6, 11, 13⟩, ⟨0, 6, 15, 16⟩], rfl, fun z hz => absurd hz List.not_mem_nil, rfl, by decide, wt_2_116, fun q9 => ?_⟩
      have hw3 := hwx
      refine j_astore_n X (pc' := 8) (kk := 3) (i := 3) (loc' := [(3, .ref q9), (0, .ref x1), (1, .int x2), (2, .int x3)]) dL_reads_7 rfl rfl (by decide) rfl ?_
      refine j_ldc X (pc' := 10) (v := (-2000000001 : Int32)) wt_2_144 dL_reads_8 rfl ?_
      exact j_iret X ⟨_, rfl, hw3⟩ (Nat.le_of_ble_eq_true rfl) (Nat.le_of_ble_eq_true rfl) dL_reads_10
    · refine ⟨(List.mem_of_getElem? (i := 0) rfl), [⟨0, 6, 7, 23⟩], ⟨0, 6, 11, 13⟩, [⟨0, 6, 15, 16⟩], rfl, List.forall_mem_cons.mpr ⟨⟨by decide, "java/lang/IndexOutOfBoundsException", (List.mem_of_getElem? (i := 2) rfl), by decide, wt_2_116⟩, fun z hz => absurd hz List.not_mem_nil⟩, rfl, by decide, wt_1_147, fun q9 => ?_⟩
      have hw4 := hwx
      refine j_astore_n X (pc' := 12) (kk := 3) (i := 3) (loc' := [(3, .ref q9), (0, .ref x1), (1, .int x2), (2, .int x3)]) dL_reads_11 rfl rfl (by decide) rfl ?_
      refine j_ldc X (pc' := 14) (v := (-2000000002 : Int32)) wt_2_111 dL_reads_12 rfl ?_
      exact j_iret X ⟨_, rfl, hw4⟩ (Nat.le_of_ble_eq_true rfl) (Nat.le_of_ble_eq_true rfl) dL_reads_14
    · refine ⟨(List.mem_of_getElem? (i := 1) rfl), [⟨0, 6, 7, 23⟩, ⟨0, 6, 11, 13⟩], ⟨0, 6, 15, 16⟩, [], rfl, List.forall_mem_cons.mpr ⟨⟨by decide, "java/lang/IndexOutOfBoundsException", (List.mem_of_getElem? (i := 2) rfl), by decide, wt_2_116⟩, List.forall_mem_cons.mpr ⟨⟨by decide, "java/lang/IllegalArgumentException", (List.mem_of_getElem? (i := 0) rfl), by decide, wt_1_147⟩, fun z hz => absurd hz List.not_mem_nil⟩⟩, rfl, by decide, wt_1_148, fun q9 => ?_⟩
      have hw5 := hwx
      refine j_astore_n X (pc' := 16) (kk := 3) (i := 3) (loc' := [(3, .ref q9), (0, .ref x1), (1, .int x2), (2, .int x3)]) dL_reads_15 rfl rfl (by decide) rfl ?_
      refine j_ldc X (pc' := 18) (v := (-2000000003 : Int32)) wt_2_112 dL_reads_16 rfl ?_
      exact j_iret X ⟨_, rfl, hw5⟩ (Nat.le_of_ble_eq_true rfl) (Nat.le_of_ble_eq_true rfl) dL_reads_18
  · exact j_iret X ⟨_, rfl, hw2⟩ (Nat.le_of_ble_eq_true rfl) (Nat.le_of_ble_eq_true rfl) dL_reads_6
theorem hd_L_fault : yL_fault.cls ≠ "java/lang/invoke/MethodHandle" ∧ yL_fault.cls ≠ "java/lang/invoke/VarHandle" ∧ (parseMethodDescriptor yL_fault.desc).map (fun d => d.parameters.length) = some 3 := ⟨by decide +kernel, by decide +kernel, by decide +kernel⟩
theorem gk_L_fault {own : String} {idx : Nat} (h : Cond.methodLink own idx yL_fault ∈ wsA) : GoodIn wsA (va_wsS own idx yL_fault (.codeWith yL_fault cL_fault 4 (some .int) [(0, 6, 7, 23), (0, 6, 11, 13)] :: wsA)) := gd_S h wt_3_139 wt_1_0 wt_3_140
/-! BitNotationLaw.fault(LBitNotation;II)I -/
theorem dL_fault_0 : decode cL_fault 0 = .ok (.aload_n 0, 1) := by decide +kernel
theorem dL_fault_1 : decode cL_fault 1 = .ok (.iload_n 1, 1) := by decide +kernel
theorem dL_fault_2 : decode cL_fault 2 = .ok (.iload_n 2, 1) := by decide +kernel
theorem dL_fault_3 : decode cL_fault 3 = .ok (.invokevirtual 71, 3) := by decide +kernel
theorem dL_fault_6 : decode cL_fault 6 = .ok (.ireturn, 1) := by decide +kernel
theorem dL_fault_7 : decode cL_fault 7 = .ok (.astore_n 3, 1) := by decide +kernel
theorem dL_fault_8 : decode cL_fault 8 = .ok (.ldc 25, 2) := by decide +kernel
theorem dL_fault_10 : decode cL_fault 10 = .ok (.ireturn, 1) := by decide +kernel
theorem dL_fault_11 : decode cL_fault 11 = .ok (.astore_n 3, 1) := by decide +kernel
theorem dL_fault_12 : decode cL_fault 12 = .ok (.ldc 15, 2) := by decide +kernel
theorem dL_fault_14 : decode cL_fault 14 = .ok (.ireturn, 1) := by decide +kernel
def wp_L_fault (kd : Nat → Nat) (x1 : Nat) (x2 : Int32) (x3 : Int32) (μ : Mm) (post : Int32 → Mm → Prop) : Prop := (∃ f4, μ x1 = some (.inl (5, f4))) ∧ wp_X6_faultAt x1 kd x2 x3 μ (fun r1 μ2 => post r1 μ2) (fun E9 μ9 => (E9 = "java/lang/IndexOutOfBoundsException" ∧ post (-2000000001 : Int32) μ9) ∨ (E9 = "java/lang/IllegalArgumentException" ∧ post (-2000000002 : Int32) μ9))
set_option maxHeartbeats 4000000 in
set_option maxRecDepth 100000 in
theorem c_L_fault (l : Launch) (G : gG) (A : Nat → Prop) (hl0 : l.stackTraces = false) (kd : Nat → Nat) (hkd : G.2.2 = kd) (x1 : Nat) (x2 : Int32) (x3 : Int32) (μ : Mm) (post : Int32 → Mm → Prop) (h : wp_L_fault kd x1 x2 x3 μ post) : Met l yL_fault (.codeWith yL_fault cL_fault 4 (some .int) [(0, 6, 7, 23), (0, 6, 11, 13)] :: wsA) (rmL (78) 2 12) (PcG G A μ [.ref x1, .int x2, .int x3]) (QG G A (pI post)) 2 12 A := by
  refine met_JW (loc := [(0, .ref x1), (1, .int x2), (2, .int x3)]) (by decide +kernel) (Nat.le_of_ble_eq_true rfl) rfl ?_
  intro p e s m args below meth c X htab
  have X : Cx p l s m args meth c cL_fault 4 (some .int) RL G A := X
  have hw := h
  unfold wp_L_fault at hw
  refine j_aload_n X (pc' := 1) (kk := 0) (i := 0) 0 rfl rfl dL_fault_0 rfl ?_
  refine j_iload_n X (pc' := 2) (kk := 1) (i := 1) 1 rfl rfl dL_fault_1 rfl ?_
  refine j_iload_n X (pc' := 3) (kk := 2) (i := 2) 2 rfl rfl dL_fault_2 rfl ?_
  obtain ⟨⟨f4, hm3⟩, hw1⟩ := hw
  refine j_tryVi (As := [.int x2, .int x3]) (rest := []) X (pc' := 6) (cells' := 2) (slots' := 12) htab (c_X6_faultAt l G A hl0 kd hkd x1 x2 x3 μ _ _ hw1) (gk_X6_faultAt wt_3_141) hd_X6_faultAt (rmL_fit (k1 := 77) (k := 78) (by omega) (by decide)) hm3 rfl rfl rfl (Nat.le_of_ble_eq_true rfl) dL_fault_3 rfl ⟨Nat.le_of_ble_eq_true rfl, Nat.le_of_ble_eq_true rfl⟩ rfl rfl (fun E9 μ9 hx => ?_) (fun r1 μ2 hw2 => ?_)
  · rcases hx with ⟨rfl, hwx⟩ | ⟨rfl, hwx⟩
    · refine ⟨(List.mem_of_getElem? (i := 2) rfl), [], ⟨0, 6, 7, 23⟩, [⟨0, 6, 11, 13⟩], rfl, fun z hz => absurd hz List.not_mem_nil, rfl, by decide, wt_2_116, fun q9 => ?_⟩
      have hw3 := hwx
      refine j_astore_n X (pc' := 8) (kk := 3) (i := 3) (loc' := [(3, .ref q9), (0, .ref x1), (1, .int x2), (2, .int x3)]) dL_fault_7 rfl rfl (by decide) rfl ?_
      refine j_ldc X (pc' := 10) (v := (-2000000001 : Int32)) wt_2_144 dL_fault_8 rfl ?_
      exact j_iret X ⟨_, rfl, hw3⟩ (Nat.le_of_ble_eq_true rfl) (Nat.le_of_ble_eq_true rfl) dL_fault_10
    · refine ⟨(List.mem_of_getElem? (i := 0) rfl), [⟨0, 6, 7, 23⟩], ⟨0, 6, 11, 13⟩, [], rfl, List.forall_mem_cons.mpr ⟨⟨by decide, "java/lang/IndexOutOfBoundsException", (List.mem_of_getElem? (i := 2) rfl), by decide, wt_2_116⟩, fun z hz => absurd hz List.not_mem_nil⟩, rfl, by decide, wt_1_147, fun q9 => ?_⟩
      have hw4 := hwx
      refine j_astore_n X (pc' := 12) (kk := 3) (i := 3) (loc' := [(3, .ref q9), (0, .ref x1), (1, .int x2), (2, .int x3)]) dL_fault_11 rfl rfl (by decide) rfl ?_
      refine j_ldc X (pc' := 14) (v := (-2000000002 : Int32)) wt_2_111 dL_fault_12 rfl ?_
      exact j_iret X ⟨_, rfl, hw4⟩ (Nat.le_of_ble_eq_true rfl) (Nat.le_of_ble_eq_true rfl) dL_fault_14
  · exact j_iret X ⟨_, rfl, hw2⟩ (Nat.le_of_ble_eq_true rfl) (Nat.le_of_ble_eq_true rfl) dL_fault_6
