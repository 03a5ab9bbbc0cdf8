theorem hd_L_addNumber : yL_addNumber.cls ≠ "java/lang/invoke/MethodHandle" ∧ yL_addNumber.cls ≠ "java/lang/invoke/VarHandle" ∧ (parseMethodDescriptor yL_addNumber.desc).map (fun d => d.parameters.length) = some 4 := ⟨by decide +kernel, by decide +kernel, by decide +kernel⟩
theorem gk_L_addNumber {own : String} {idx : Nat} (h : Cond.methodLink own idx yL_addNumber ∈ wsA) : GoodIn wsA (va_wsS own idx yL_addNumber (.codeWith yL_addNumber cL_addNumber 5 (some .int) [(0, 10, 13, 13), (0, 10, 17, 15)] :: wsA)) := gd_S h wt_1_150 wt_1_0 wt_1_151
/-! BitNotationLaw.addNumber(LBitNotation;II[J)I -/
theorem dL_addNumber_0 : decode cL_addNumber 0 = .ok (.aload_n 3, 1) := by decide +kernel
theorem dL_addNumber_1 : decode cL_addNumber 1 = .ok (.iconst 0, 1) := by decide +kernel
theorem dL_addNumber_2 : decode cL_addNumber 2 = .ok (.aload_n 0, 1) := by decide +kernel
theorem dL_addNumber_3 : decode cL_addNumber 3 = .ok (.iload_n 1, 1) := by decide +kernel
theorem dL_addNumber_4 : decode cL_addNumber 4 = .ok (.iload_n 2, 1) := by decide +kernel
theorem dL_addNumber_5 : decode cL_addNumber 5 = .ok (.invokevirtual 7, 3) := by decide +kernel
theorem dL_addNumber_8 : decode cL_addNumber 8 = .ok (.i2l, 1) := by decide +kernel
theorem dL_addNumber_9 : decode cL_addNumber 9 = .ok (.lastore, 1) := by decide +kernel
theorem dL_addNumber_10 : decode cL_addNumber 10 = .ok (.goto 11, 3) := by decide +kernel
theorem dL_addNumber_13 : decode cL_addNumber 13 = .ok (.astore 4, 2) := by decide +kernel
theorem dL_addNumber_15 : decode cL_addNumber 15 = .ok (.iconst 1, 1) := by decide +kernel
theorem dL_addNumber_16 : decode cL_addNumber 16 = .ok (.ireturn, 1) := by decide +kernel
theorem dL_addNumber_17 : decode cL_addNumber 17 = .ok (.astore 4, 2) := by decide +kernel
theorem dL_addNumber_19 : decode cL_addNumber 19 = .ok (.iconst 2, 1) := by decide +kernel
theorem dL_addNumber_20 : decode cL_addNumber 20 = .ok (.ireturn, 1) := by decide +kernel
theorem dL_addNumber_21 : decode cL_addNumber 21 = .ok (.iconst 0, 1) := by decide +kernel
theorem dL_addNumber_22 : decode cL_addNumber 22 = .ok (.ireturn, 1) := by decide +kernel
def wp_L_addNumber (kd : Nat → Nat) (x1 : Nat) (x2 : Int32) (x3 : Int32) (x4 : Nat) (μ : Mm) (post : Int32 → Mm → Prop) : Prop := (∃ f10, μ x1 = some (.inl (5, f10))) ∧ wp_X6_addNumber x1 kd x2 x3 μ (fun r1 μ2 => ∃ n3 f4, μ2 x4 = some (eL n3 f4) ∧ vp_in (0 : Int32) n3 ∧ ∀ μ7, μ7 = ups μ2 x4 (eL n3 (vp_updL f4 (0 : Int32).toNatClampNeg r1.toInt64)) → post (0 : Int32) μ7) (fun E9 μ9 => (E9 = "java/lang/IllegalArgumentException" ∧ post (1 : Int32) μ9) ∨ (E9 = "java/lang/IllegalStateException" ∧ post (2 : Int32) μ9))
set_option maxHeartbeats 4000000 in
set_option maxRecDepth 100000 in
theorem c_L_addNumber (l : Launch) (G : gG) (A : Nat → Prop) (hl0 : l.stackTraces = false) (kd : Nat → Nat) (hkd : G.2.2 = kd) (x1 : Nat) (x2 : Int32) (x3 : Int32) (x4 : Nat) (μ : Mm) (post : Int32 → Mm → Prop) (h : wp_L_addNumber kd x1 x2 x3 x4 μ post) : Met l yL_addNumber (.codeWith yL_addNumber cL_addNumber 5 (some .int) [(0, 10, 13, 13), (0, 10, 17, 15)] :: wsA) (rmL (5) 6 23) (PcG G A μ [.ref x1, .int x2, .int x3, .ref x4]) (QG G A (pI post)) 6 23 A := by
  refine met_JW (loc := [(0, .ref x1), (1, .int x2), (2, .int x3), (3, .ref x4)]) (by decide +kernel) (Nat.le_of_ble_eq_true rfl) rfl ?_
  intro p e s m args below meth c X htab
  have X : Cx p l s m args meth c cL_addNumber 5 (some .int) RL G A := X
  have hw := h
  unfold wp_L_addNumber at hw
  refine j_aload_n X (pc' := 1) (kk := 3) (i := 3) 3 rfl rfl dL_addNumber_0 rfl ?_
  refine j_iconst X (pc' := 2) (v := 0) (by decide) dL_addNumber_1 rfl ?_
  refine j_aload_n X (pc' := 3) (kk := 0) (i := 0) 0 rfl rfl dL_addNumber_2 rfl ?_
  refine j_iload_n X (pc' := 4) (kk := 1) (i := 1) 1 rfl rfl dL_addNumber_3 rfl ?_
  refine j_iload_n X (pc' := 5) (kk := 2) (i := 2) 2 rfl rfl dL_addNumber_4 rfl ?_
  obtain ⟨⟨f10, hm9⟩, hw1⟩ := hw
  refine j_tryVi (As := [.int x2, .int x3]) (rest := [.int ((0 : Int32)), .ref x4]) X (pc' := 8) (cells' := 6) (slots' := 23) htab (c_X6_addNumber l G A hl0 kd hkd x1 x2 x3 μ _ _ hw1) (gk_X6_addNumber wt_1_154) hd_X6_addNumber (rmL_fit (k1 := 4) (k := 5) (by omega) (by decide)) hm9 rfl rfl rfl (Nat.le_of_ble_eq_true rfl) dL_addNumber_5 rfl ⟨Nat.le_of_ble_eq_true rfl, Nat.le_of_ble_eq_true rfl⟩ rfl rfl (fun E9 μ9 hx => ?_) (fun r1 μ2 hw2 => ?_)
  · rcases hx with ⟨rfl, hwx⟩ | ⟨rfl, hwx⟩
    · refine ⟨(List.mem_of_getElem? (i := 0) rfl), [], ⟨0, 10, 13, 13⟩, [⟨0, 10, 17, 15⟩], rfl, fun z hz => absurd hz List.not_mem_nil, rfl, by decide, wt_1_152, fun q9 => ?_⟩
      have hw3 := hwx
      refine j_astore X (pc' := 15) (i := 4) (loc' := [(4, .ref q9), (0, .ref x1), (1, .int x2), (2, .int x3), (3, .ref x4)]) dL_addNumber_13 rfl (by decide) rfl ?_
      refine j_iconst X (pc' := 16) (v := 1) (by decide) dL_addNumber_15 rfl ?_
      exact j_iret X ⟨_, rfl, hw3⟩ (Nat.le_of_ble_eq_true rfl) (Nat.le_of_ble_eq_true rfl) dL_addNumber_16
    · refine ⟨(List.mem_of_getElem? (i := 1) rfl), [⟨0, 10, 13, 13⟩], ⟨0, 10, 17, 15⟩, [], rfl, List.forall_mem_cons.mpr ⟨⟨by decide, "java/lang/IllegalArgumentException", (List.mem_of_getElem? (i := 0) rfl), by decide, wt_1_152⟩, fun z hz => absurd hz List.not_mem_nil⟩, rfl, by decide, wt_1_153, fun q9 => ?_⟩
      have hw4 := hwx
      refine j_astore X (pc' := 19) (i := 4) (loc' := [(4, .ref q9), (0, .ref x1), (1, .int x2), (2, .int x3), (3, .ref x4)]) dL_addNumber_17 rfl (by decide) rfl ?_
      refine j_iconst X (pc' := 20) (v := 2) (by decide) dL_addNumber_19 rfl ?_
      exact j_iret X ⟨_, rfl, hw4⟩ (Nat.le_of_ble_eq_true rfl) (Nat.le_of_ble_eq_true rfl) dL_addNumber_20
  · refine j_i2l X (pc' := 9) dL_addNumber_8 rfl ?_
    obtain ⟨n3, f4, hm5, hi6, hw5⟩ := hw2
    refine jp_last X (pc' := 10) hm5 hi6 dL_addNumber_9 rfl (fun μ7 e8 => ?_)
    have hw6 := hw5 μ7 e8
    refine j_goto X (tgt := 21) dL_addNumber_10 (by decide) ?_
    refine j_iconst X (pc' := 22) (v := 0) (by decide) dL_addNumber_21 rfl ?_
    exact j_iret X ⟨_, rfl, hw6⟩ (Nat.le_of_ble_eq_true rfl) (Nat.le_of_ble_eq_true rfl) dL_addNumber_22
theorem hd_L_addList : yL_addList.cls ≠ "java/lang/invoke/MethodHandle" ∧ yL_addList.cls ≠ "java/lang/invoke/VarHandle" ∧ (parseMethodDescriptor yL_addList.desc).map (fun d => d.parameters.length) = some 5 := ⟨by decide +kernel, by decide +kernel, by decide +kernel⟩
theorem gk_L_addList {own : String} {idx : Nat} (h : Cond.methodLink own idx yL_addList ∈ wsA) : GoodIn wsA (va_wsS own idx yL_addList (.codeWith yL_addList cL_addList 6 (some .int) [(0, 12, 15, 21), (0, 12, 19, 13), (0, 12, 23, 15)] :: wsA)) := gd_S h wt_2_117 wt_1_0 wt_2_118
/-! BitNotationLaw.addList(LBitNotation;III[J)I -/
theorem dL_addList_0 : decode cL_addList 0 = .ok (.aload 4, 2) := by decide +kernel
theorem dL_addList_2 : decode cL_addList 2 = .ok (.iconst 0, 1) := by decide +kernel
theorem dL_addList_3 : decode cL_addList 3 = .ok (.aload_n 0, 1) := by decide +kernel
theorem dL_addList_4 : decode cL_addList 4 = .ok (.iload_n 1, 1) := by decide +kernel
theorem dL_addList_5 : decode cL_addList 5 = .ok (.iload_n 2, 1) := by decide +kernel
theorem dL_addList_6 : decode cL_addList 6 = .ok (.iload_n 3, 1) := by decide +kernel
theorem dL_addList_7 : decode cL_addList 7 = .ok (.invokevirtual 17, 3) := by decide +kernel
theorem dL_addList_10 : decode cL_addList 10 = .ok (.i2l, 1) := by decide +kernel
theorem dL_addList_11 : decode cL_addList 11 = .ok (.lastore, 1) := by decide +kernel
theorem dL_addList_12 : decode cL_addList 12 = .ok (.goto 15, 3) := by decide +kernel
theorem dL_addList_15 : decode cL_addList 15 = .ok (.astore 5, 2) := by decide +kernel
theorem dL_addList_17 : decode cL_addList 17 = .ok (.iconst 1, 1) := by decide +kernel
theorem dL_addList_18 : decode cL_addList 18 = .ok (.ireturn, 1) := by decide +kernel
theorem dL_addList_19 : decode cL_addList 19 = .ok (.astore 5, 2) := by decide +kernel
theorem dL_addList_21 : decode cL_addList 21 = .ok (.iconst 2, 1) := by decide +kernel
theorem dL_addList_22 : decode cL_addList 22 = .ok (.ireturn, 1) := by decide +kernel
theorem dL_addList_23 : decode cL_addList 23 = .ok (.astore 5, 2) := by decide +kernel
theorem dL_addList_25 : decode cL_addList 25 = .ok (.iconst 3, 1) := by decide +kernel
theorem dL_addList_26 : decode cL_addList 26 = .ok (.ireturn, 1) := by decide +kernel
theorem dL_addList_27 : decode cL_addList 27 = .ok (.iconst 0, 1) := by decide +kernel
theorem dL_addList_28 : decode cL_addList 28 = .ok (.ireturn, 1) := by decide +kernel
def wp_L_addList (kd : Nat → Nat) (x1 : Nat) (x2 : Int32) (x3 : Int32) (x4 : Int32) (x5 : Nat) (μ : Mm) (post : Int32 → Mm → Prop) : Prop := (∃ f10, μ x1 = some (.inl (5, f10))) ∧ wp_X6_addList x1 kd x2 x3 x4 μ (fun r1 μ2 => ∃ n3 f4, μ2 x5 = some (eL n3 f4) ∧ vp_in (0 : Int32) n3 ∧ ∀ μ7, μ7 = ups μ2 x5 (eL n3 (vp_updL f4 (0 : Int32).toNatClampNeg r1.toInt64)) → post (0 : Int32) μ7) (fun E9 μ9 => (E9 = "java/lang/IndexOutOfBoundsException" ∧ post (1 : Int32) μ9) ∨ (E9 = "java/lang/IllegalArgumentException" ∧ post (2 : Int32) μ9) ∨ (E9 = "java/lang/IllegalStateException" ∧ post (3 : Int32) μ9))
set_option maxHeartbeats 4000000 in
set_option maxRecDepth 100000 in
theorem c_L_addList (l : Launch) (G : gG) (A : Nat → Prop) (hl0 : l.stackTraces = false) (kd : Nat → Nat) (hkd : G.2.2 = kd) (x1 : Nat) (x2 : Int32) (x3 : Int32) (x4 : Int32) (x5 : Nat) (μ : Mm) (post : Int32 → Mm → Prop) (h : wp_L_addList kd x1 x2 x3 x4 x5 μ post) : Met l yL_addList (.codeWith yL_addList cL_addList 6 (some .int) [(0, 12, 15, 21), (0, 12, 19, 13), (0, 12, 23, 15)] :: wsA) (rmL (5) 7 30) (PcG G A μ [.ref x1, .int x2, .int x3, .int x4, .ref x5]) (QG G A (pI post)) 7 30 A := by
  refine met_JW (loc := [(0, .ref x1), (1, .int x2), (2, .int x3), (3, .int x4), (4, .ref x5)]) (by decide +kernel) (Nat.le_of_ble_eq_true rfl) rfl ?_
  intro p e s m args below meth c X htab
  have X : Cx p l s m args meth c cL_addList 6 (some .int) RL G A := X
  have hw := h
  unfold wp_L_addList at hw
  refine j_aload X (pc' := 2) (i := 4) 4 rfl dL_addList_0 rfl ?_
  refine j_iconst X (pc' := 3) (v := 0) (by decide) dL_addList_2 rfl ?_
  refine j_aload_n X (pc' := 4) (kk := 0) (i := 0) 0 rfl rfl dL_addList_3 rfl ?_
  refine j_iload_n X (pc' := 5) (kk := 1) (i := 1) 1 rfl rfl dL_addList_4 rfl ?_
  refine j_iload_n X (pc' := 6) (kk := 2) (i := 2) 2 rfl rfl dL_addList_5 rfl ?_
  refine j_iload_n X (pc' := 7) (kk := 3) (i := 3) 3 rfl rfl dL_addList_6 rfl ?_
  obtain ⟨⟨f10, hm9⟩, hw1⟩ := hw
  refine j_tryVi (As := [.int x2, .int x3, .int x4]) (rest := [.int ((0 : Int32)), .ref x5]) X (pc' := 10) (cells' := 7) (slots' := 30) htab (c_X6_addList l G A hl0 kd hkd x1 x2 x3 x4 μ _ _ hw1) (gk_X6_addList wt_2_120) hd_X6_addList (rmL_fit (k1 := 4) (k := 5) (by omega) (by decide)) hm9 rfl rfl rfl (Nat.le_of_ble_eq_true rfl) dL_addList_7 rfl ⟨Nat.le_of_ble_eq_true rfl, Nat.le_of_ble_eq_true rfl⟩ rfl rfl (fun E9 μ9 hx => ?_) (fun r1 μ2 hw2 => ?_)
  · rcases hx with ⟨rfl, hwx⟩ | ⟨rfl, hwx⟩ | ⟨rfl, hwx⟩
    · refine ⟨(List.mem_of_getElem? (i := 2) rfl), [], ⟨0, 12, 15, 21⟩, [⟨0, 12, 19, 13⟩, ⟨0, 12, 23, 15⟩], rfl, fun z hz => absurd hz List.not_mem_nil, rfl, by decide, wt_2_119, fun q9 => ?_⟩
      have hw3 := hwx
      refine j_astore X (pc' := 17) (i := 5) (loc' := [(5, .ref q9), (0, .ref x1), (1, .int x2), (2, .int x3), (3, .int x4), (4, .ref x5)]) dL_addList_15 rfl (by decide) rfl ?_
      refine j_iconst X (pc' := 18) (v := 1) (by decide) dL_addList_17 rfl ?_
      exact j_iret X ⟨_, rfl, hw3⟩ (Nat.le_of_ble_eq_true rfl) (Nat.le_of_ble_eq_true rfl) dL_addList_18
    · refine ⟨(List.mem_of_getElem? (i := 0) rfl), [⟨0, 12, 15, 21⟩], ⟨0, 12, 19, 13⟩, [⟨0, 12, 23, 15⟩], rfl, List.forall_mem_cons.mpr ⟨⟨by decide, "java/lang/IndexOutOfBoundsException", (List.mem_of_getElem? (i := 2) rfl), by decide, wt_2_119⟩, fun z hz => absurd hz List.not_mem_nil⟩, rfl, by decide, wt_1_152, fun q9 => ?_⟩
      have hw4 := hwx
      refine j_astore X (pc' := 21) (i := 5) (loc' := [(5, .ref q9), (0, .ref x1), (1, .int x2), (2, .int x3), (3, .int x4), (4, .ref x5)]) dL_addList_19 rfl (by decide) rfl ?_
      refine j_iconst X (pc' := 22) (v := 2) (by decide) dL_addList_21 rfl ?_
      exact j_iret X ⟨_, rfl, hw4⟩ (Nat.le_of_ble_eq_true rfl) (Nat.le_of_ble_eq_true rfl) dL_addList_22
    · refine ⟨(List.mem_of_getElem? (i := 1) rfl), [⟨0, 12, 15, 21⟩, ⟨0, 12, 19, 13⟩], ⟨0, 12, 23, 15⟩, [], rfl, List.forall_mem_cons.mpr ⟨⟨by decide, "java/lang/IndexOutOfBoundsException", (List.mem_of_getElem? (i := 2) rfl), by decide, wt_2_119⟩, List.forall_mem_cons.mpr ⟨⟨by decide, "java/lang/IllegalArgumentException", (List.mem_of_getElem? (i := 0) rfl), by decide, wt_1_152⟩, fun z hz => absurd hz List.not_mem_nil⟩⟩, rfl, by decide, wt_1_153, fun q9 => ?_⟩
      have hw5 := hwx
      refine j_astore X (pc' := 25) (i := 5) (loc' := [(5, .ref q9), (0, .ref x1), (1, .int x2), (2, .int x3), (3, .int x4), (4, .ref x5)]) dL_addList_23 rfl (by decide) rfl ?_
      refine j_iconst X (pc' := 26) (v := 3) (by decide) dL_addList_25 rfl ?_
      exact j_iret X ⟨_, rfl, hw5⟩ (Nat.le_of_ble_eq_true rfl) (Nat.le_of_ble_eq_true rfl) dL_addList_26
  · refine j_i2l X (pc' := 11) dL_addList_10 rfl ?_
    obtain ⟨n3, f4, hm5, hi6, hw6⟩ := hw2
    refine jp_last X (pc' := 12) hm5 hi6 dL_addList_11 rfl (fun μ7 e8 => ?_)
    have hw7 := hw6 μ7 e8
    refine j_goto X (tgt := 27) dL_addList_12 (by decide) ?_
    refine j_iconst X (pc' := 28) (v := 0) (by decide) dL_addList_27 rfl ?_
    exact j_iret X ⟨_, rfl, hw7⟩ (Nat.le_of_ble_eq_true rfl) (Nat.le_of_ble_eq_true rfl) dL_addList_28
theorem hd_L_part : yL_part.cls ≠ "java/lang/invoke/MethodHandle" ∧ yL_part.cls ≠ "java/lang/invoke/VarHandle" ∧ (parseMethodDescriptor yL_part.desc).map (fun d => d.parameters.length) = some 4 := ⟨by decide +kernel, by decide +kernel, by decide +kernel⟩
theorem gk_L_part {own : String} {idx : Nat} (h : Cond.methodLink own idx yL_part ∈ wsA) : GoodIn wsA (va_wsS own idx yL_part (.codeWith yL_part cL_part 5 (some .int) [(0, 10, 13, 21), (0, 10, 17, 15)] :: wsA)) := gd_S h wt_2_148 wt_1_0 wt_2_149
/-! BitNotationLaw.part(LBitNotation;IZ[J)I -/
theorem dL_part_0 : decode cL_part 0 = .ok (.aload_n 3, 1) := by decide +kernel
theorem dL_part_1 : decode cL_part 1 = .ok (.iconst 0, 1) := by decide +kernel
theorem dL_part_2 : decode cL_part 2 = .ok (.aload_n 0, 1) := by decide +kernel
theorem dL_part_3 : decode cL_part 3 = .ok (.iload_n 1, 1) := by decide +kernel
theorem dL_part_4 : decode cL_part 4 = .ok (.iload_n 2, 1) := by decide +kernel
theorem dL_part_5 : decode cL_part 5 = .ok (.invokevirtual 23, 3) := by decide +kernel
theorem dL_part_8 : decode cL_part 8 = .ok (.i2l, 1) := by decide +kernel
theorem dL_part_9 : decode cL_part 9 = .ok (.lastore, 1) := by decide +kernel
theorem dL_part_10 : decode cL_part 10 = .ok (.goto 11, 3) := by decide +kernel
theorem dL_part_13 : decode cL_part 13 = .ok (.astore 4, 2) := by decide +kernel
theorem dL_part_15 : decode cL_part 15 = .ok (.iconst 1, 1) := by decide +kernel
theorem dL_part_16 : decode cL_part 16 = .ok (.ireturn, 1) := by decide +kernel
theorem dL_part_17 : decode cL_part 17 = .ok (.astore 4, 2) := by decide +kernel
theorem dL_part_19 : decode cL_part 19 = .ok (.iconst 2, 1) := by decide +kernel
theorem dL_part_20 : decode cL_part 20 = .ok (.ireturn, 1) := by decide +kernel
theorem dL_part_21 : decode cL_part 21 = .ok (.iconst 0, 1) := by decide +kernel
theorem dL_part_22 : decode cL_part 22 = .ok (.ireturn, 1) := by decide +kernel
def wp_L_part (x1 : Nat) (x2 : Int32) (x3 : Int32) (x4 : Nat) (μ : Mm) (post : Int32 → Mm → Prop) : Prop := (∃ f10, μ x1 = some (.inl (5, f10))) ∧ wp_X6_part x1 x2 x3 μ (fun r1 μ2 => ∃ n3 f4, μ2 x4 = some (eL n3 f4) ∧ vp_in (0 : Int32) n3 ∧ ∀ μ7, μ7 = ups μ2 x4 (eL n3 (vp_updL f4 (0 : Int32).toNatClampNeg r1.toInt64)) → post (0 : Int32) μ7) (fun E9 μ9 => (E9 = "java/lang/IndexOutOfBoundsException" ∧ post (1 : Int32) μ9) ∨ (E9 = "java/lang/IllegalStateException" ∧ post (2 : Int32) μ9))
set_option maxHeartbeats 4000000 in
set_option maxRecDepth 100000 in
theorem c_L_part (l : Launch) (G : gG) (A : Nat → Prop) (hl0 : l.stackTraces = false) (x1 : Nat) (x2 : Int32) (x3 : Int32) (x4 : Nat) (μ : Mm) (post : Int32 → Mm → Prop) (h : wp_L_part x1 x2 x3 x4 μ post) : Met l yL_part (.codeWith yL_part cL_part 5 (some .int) [(0, 10, 13, 21), (0, 10, 17, 15)] :: wsA) (rmL (3) 2 12) (PcG G A μ [.ref x1, .int x2, .int x3, .ref x4]) (QG G A (pI post)) 2 12 A := by
  refine met_JW (loc := [(0, .ref x1), (1, .int x2), (2, .int x3), (3, .ref x4)]) (by decide +kernel) (Nat.le_of_ble_eq_true rfl) rfl ?_
  intro p e s m args below meth c X htab
  have X : Cx p l s m args meth c cL_part 5 (some .int) RL G A := X
  have hw := h
  unfold wp_L_part at hw
  refine j_aload_n X (pc' := 1) (kk := 3) (i := 3) 3 rfl rfl dL_part_0 rfl ?_
  refine j_iconst X (pc' := 2) (v := 0) (by decide) dL_part_1 rfl ?_
  refine j_aload_n X (pc' := 3) (kk := 0) (i := 0) 0 rfl rfl dL_part_2 rfl ?_
  refine j_iload_n X (pc' := 4) (kk := 1) (i := 1) 1 rfl rfl dL_part_3 rfl ?_
  refine j_iload_n X (pc' := 5) (kk := 2) (i := 2) 2 rfl rfl dL_part_4 rfl ?_
  obtain ⟨⟨f10, hm9⟩, hw1⟩ := hw
  refine j_tryVi (As := [.int x2, .int x3]) (rest := [.int ((0 : Int32)), .ref x4]) X (pc' := 8) (cells' := 2) (slots' := 12) htab (c_X6_part l G A hl0 x1 x2 x3 μ _ _ hw1) (gk_X6_part wt_2_150) hd_X6_part (rmL_fit (k1 := 2) (k := 3) (by omega) (by decide)) hm9 rfl rfl rfl (Nat.le_of_ble_eq_true rfl) dL_part_5 rfl ⟨Nat.le_of_ble_eq_true rfl, Nat.le_of_ble_eq_true rfl⟩ rfl rfl (fun E9 μ9 hx => ?_) (fun r1 μ2 hw2 => ?_)
  · rcases hx with ⟨rfl, hwx⟩ | ⟨rfl, hwx⟩
    · refine ⟨(List.mem_of_getElem? (i := 2) rfl), [], ⟨0, 10, 13, 21⟩, [⟨0, 10, 17, 15⟩], rfl, fun z hz => absurd hz List.not_mem_nil, rfl, by decide, wt_2_119, fun q9 => ?_⟩
      have hw3 := hwx
      refine j_astore X (pc' := 15) (i := 4) (loc' := [(4, .ref q9), (0, .ref x1), (1, .int x2), (2, .int x3), (3, .ref x4)]) dL_part_13 rfl (by decide) rfl ?_
      refine j_iconst X (pc' := 16) (v := 1) (by decide) dL_part_15 rfl ?_
      exact j_iret X ⟨_, rfl, hw3⟩ (Nat.le_of_ble_eq_true rfl) (Nat.le_of_ble_eq_true rfl) dL_part_16
    · refine ⟨(List.mem_of_getElem? (i := 1) rfl), [⟨0, 10, 13, 21⟩], ⟨0, 10, 17, 15⟩, [], rfl, List.forall_mem_cons.mpr ⟨⟨by decide, "java/lang/IndexOutOfBoundsException", (List.mem_of_getElem? (i := 2) rfl), by decide, wt_2_119⟩, fun z hz => absurd hz List.not_mem_nil⟩, rfl, by decide, wt_1_153, fun q9 => ?_⟩
      have hw4 := hwx
      refine j_astore X (pc' := 19) (i := 4) (loc' := [(4, .ref q9), (0, .ref x1), (1, .int x2), (2, .int x3), (3, .ref x4)]) dL_part_17 rfl (by decide) rfl ?_
      refine j_iconst X (pc' := 20) (v := 2) (by decide) dL_part_19 rfl ?_
      exact j_iret X ⟨_, rfl, hw4⟩ (Nat.le_of_ble_eq_true rfl) (Nat.le_of_ble_eq_true rfl) dL_part_20
  · refine j_i2l X (pc' := 9) dL_part_8 rfl ?_
    obtain ⟨n3, f4, hm5, hi6, hw5⟩ := hw2
    refine jp_last X (pc' := 10) hm5 hi6 dL_part_9 rfl (fun μ7 e8 => ?_)
    have hw6 := hw5 μ7 e8
    refine j_goto X (tgt := 21) dL_part_10 (by decide) ?_
    refine j_iconst X (pc' := 22) (v := 0) (by decide) dL_part_21 rfl ?_
    exact j_iret X ⟨_, rfl, hw6⟩ (Nat.le_of_ble_eq_true rfl) (Nat.le_of_ble_eq_true rfl) dL_part_22
theorem hd_L_addSequence : yL_addSequence.cls ≠ "java/lang/invoke/MethodHandle" ∧ yL_addSequence.cls ≠ "java/lang/invoke/VarHandle" ∧ (parseMethodDescriptor yL_addSequence.desc).map (fun d => d.parameters.length) = some 2 := ⟨by decide +kernel, by decide +kernel, by decide +kernel⟩
theorem gk_L_addSequence {own : String} {idx : Nat} (h : Cond.methodLink own idx yL_addSequence ∈ wsA) : GoodIn wsA (va_wsS own idx yL_addSequence (.codeWith yL_addSequence cL_addSequence 3 (some .int) [(0, 8, 11, 15)] :: wsA)) := gd_S h wt_2_156 wt_1_0 wt_2_157
/-! BitNotationLaw.addSequence(LBitNotation;[J)I -/
theorem dL_addSequence_0 : decode cL_addSequence 0 = .ok (.aload_n 1, 1) := by decide +kernel
theorem dL_addSequence_1 : decode cL_addSequence 1 = .ok (.iconst 0, 1) := by decide +kernel
theorem dL_addSequence_2 : decode cL_addSequence 2 = .ok (.aload_n 0, 1) := by decide +kernel
theorem dL_addSequence_3 : decode cL_addSequence 3 = .ok (.invokevirtual 27, 3) := by decide +kernel
theorem dL_addSequence_6 : decode cL_addSequence 6 = .ok (.i2l, 1) := by decide +kernel
theorem dL_addSequence_7 : decode cL_addSequence 7 = .ok (.lastore, 1) := by decide +kernel
theorem dL_addSequence_8 : decode cL_addSequence 8 = .ok (.goto 6, 3) := by decide +kernel
theorem dL_addSequence_11 : decode cL_addSequence 11 = .ok (.astore_n 2, 1) := by decide +kernel
theorem dL_addSequence_12 : decode cL_addSequence 12 = .ok (.iconst 1, 1) := by decide +kernel
theorem dL_addSequence_13 : decode cL_addSequence 13 = .ok (.ireturn, 1) := by decide +kernel
theorem dL_addSequence_14 : decode cL_addSequence 14 = .ok (.iconst 0, 1) := by decide +kernel
theorem dL_addSequence_15 : decode cL_addSequence 15 = .ok (.ireturn, 1) := by decide +kernel
def wp_L_addSequence (kd : Nat → Nat) (x1 : Nat) (x2 : Nat) (μ : Mm) (post : Int32 → Mm → Prop) : Prop := (∃ f10, μ x1 = some (.inl (5, f10))) ∧ wp_X6_addSequence x1 kd μ (fun r1 μ2 => ∃ n3 f4, μ2 x2 = some (eL n3 f4) ∧ vp_in (0 : Int32) n3 ∧ ∀ μ7, μ7 = ups μ2 x2 (eL n3 (vp_updL f4 (0 : Int32).toNatClampNeg r1.toInt64)) → post (0 : Int32) μ7) (fun E9 μ9 => (E9 = "java/lang/IllegalStateException" ∧ post (1 : Int32) μ9))
set_option maxHeartbeats 4000000 in
set_option maxRecDepth 100000 in
theorem c_L_addSequence (l : Launch) (G : gG) (A : Nat → Prop) (hl0 : l.stackTraces = false) (kd : Nat → Nat) (hkd : G.2.2 = kd) (x1 : Nat) (x2 : Nat) (μ : Mm) (post : Int32 → Mm → Prop) (h : wp_L_addSequence kd x1 x2 μ post) : Met l yL_addSequence (.codeWith yL_addSequence cL_addSequence 3 (some .int) [(0, 8, 11, 15)] :: wsA) (rmL (6) 6 29) (PcG G A μ [.ref x1, .ref x2]) (QG G A (pI post)) 6 29 A := by
  refine met_JW (loc := [(0, .ref x1), (1, .ref x2)]) (by decide +kernel) (Nat.le_of_ble_eq_true rfl) rfl ?_
  intro p e s m args below meth c X htab
  have X : Cx p l s m args meth c cL_addSequence 3 (some .int) RL G A := X
  have hw := h
  unfold wp_L_addSequence at hw
  refine j_aload_n X (pc' := 1) (kk := 1) (i := 1) 1 rfl rfl dL_addSequence_0 rfl ?_
  refine j_iconst X (pc' := 2) (v := 0) (by decide) dL_addSequence_1 rfl ?_
  refine j_aload_n X (pc' := 3) (kk := 0) (i := 0) 0 rfl rfl dL_addSequence_2 rfl ?_
  obtain ⟨⟨f10, hm9⟩, hw1⟩ := hw
  refine j_tryVi (As := []) (rest := [.int ((0 : Int32)), .ref x2]) X (pc' := 6) (cells' := 6) (slots' := 29) htab (c_X6_addSequence l G A hl0 kd hkd x1 μ _ _ hw1) (gk_X6_addSequence wt_2_158) hd_X6_addSequence (rmL_fit (k1 := 5) (k := 6) (by omega) (by decide)) hm9 rfl rfl rfl (Nat.le_of_ble_eq_true rfl) dL_addSequence_3 rfl ⟨Nat.le_of_ble_eq_true rfl, Nat.le_of_ble_eq_true rfl⟩ rfl rfl (fun E9 μ9 hx => ?_) (fun r1 μ2 hw2 => ?_)
  · obtain ⟨rfl, hwx⟩ := hx
    refine ⟨(List.mem_of_getElem? (i := 1) rfl), [], ⟨0, 8, 11, 15⟩, [], rfl, fun z hz => absurd hz List.not_mem_nil, rfl, by decide, wt_1_153, fun q9 => ?_⟩
    have hw3 := hwx
    refine j_astore_n X (pc' := 12) (kk := 2) (i := 2) (loc' := [(2, .ref q9), (0, .ref x1), (1, .ref x2)]) dL_addSequence_11 rfl rfl (by decide) rfl ?_
    refine j_iconst X (pc' := 13) (v := 1) (by decide) dL_addSequence_12 rfl ?_
    exact j_iret X ⟨_, rfl, hw3⟩ (Nat.le_of_ble_eq_true rfl) (Nat.le_of_ble_eq_true rfl) dL_addSequence_13
  · refine j_i2l X (pc' := 7) dL_addSequence_6 rfl ?_
    obtain ⟨n3, f4, hm5, hi6, hw4⟩ := hw2
    refine jp_last X (pc' := 8) hm5 hi6 dL_addSequence_7 rfl (fun μ7 e8 => ?_)
    have hw5 := hw4 μ7 e8
    refine j_goto X (tgt := 14) dL_addSequence_8 (by decide) ?_
    refine j_iconst X (pc' := 15) (v := 0) (by decide) dL_addSequence_14 rfl ?_
    exact j_iret X ⟨_, rfl, hw5⟩ (Nat.le_of_ble_eq_true rfl) (Nat.le_of_ble_eq_true rfl) dL_addSequence_15
theorem hd_L_addChoice : yL_addChoice.cls ≠ "java/lang/invoke/MethodHandle" ∧ yL_addChoice.cls ≠ "java/lang/invoke/VarHandle" ∧ (parseMethodDescriptor yL_addChoice.desc).map (fun d => d.parameters.length) = some 2 := ⟨by decide +kernel, by decide +kernel, by decide +kernel⟩
theorem gk_L_addChoice {own : String} {idx : Nat} (h : Cond.methodLink own idx yL_addChoice ∈ wsA) : GoodIn wsA (va_wsS own idx yL_addChoice (.codeWith yL_addChoice cL_addChoice 3 (some .int) [(0, 8, 11, 15)] :: wsA)) := gd_S h wt_2_169 wt_1_0 wt_2_170
/-! BitNotationLaw.addChoice(LBitNotation;[J)I -/
theorem dL_addChoice_0 : decode cL_addChoice 0 = .ok (.aload_n 1, 1) := by decide +kernel
theorem dL_addChoice_1 : decode cL_addChoice 1 = .ok (.iconst 0, 1) := by decide +kernel
theorem dL_addChoice_2 : decode cL_addChoice 2 = .ok (.aload_n 0, 1) := by decide +kernel
theorem dL_addChoice_3 : decode cL_addChoice 3 = .ok (.invokevirtual 31, 3) := by decide +kernel
theorem dL_addChoice_6 : decode cL_addChoice 6 = .ok (.i2l, 1) := by decide +kernel
theorem dL_addChoice_7 : decode cL_addChoice 7 = .ok (.lastore, 1) := by decide +kernel
theorem dL_addChoice_8 : decode cL_addChoice 8 = .ok (.goto 6, 3) := by decide +kernel
theorem dL_addChoice_11 : decode cL_addChoice 11 = .ok (.astore_n 2, 1) := by decide +kernel
theorem dL_addChoice_12 : decode cL_addChoice 12 = .ok (.iconst 1, 1) := by decide +kernel
theorem dL_addChoice_13 : decode cL_addChoice 13 = .ok (.ireturn, 1) := by decide +kernel
theorem dL_addChoice_14 : decode cL_addChoice 14 = .ok (.iconst 0, 1) := by decide +kernel
theorem dL_addChoice_15 : decode cL_addChoice 15 = .ok (.ireturn, 1) := by decide +kernel
def wp_L_addChoice (kd : Nat → Nat) (x1 : Nat) (x2 : Nat) (μ : Mm) (post : Int32 → Mm → Prop) : Prop := (∃ f10, μ x1 = some (.inl (5, f10))) ∧ wp_X6_addChoice x1 kd μ (fun r1 μ2 => ∃ n3 f4, μ2 x2 = some (eL n3 f4) ∧ vp_in (0 : Int32) n3 ∧ ∀ μ7, μ7 = ups μ2 x2 (eL n3 (vp_updL f4 (0 : Int32).toNatClampNeg r1.toInt64)) → post (0 : Int32) μ7) (fun E9 μ9 => (E9 = "java/lang/IllegalStateException" ∧ post (1 : Int32) μ9))
set_option maxHeartbeats 4000000 in
set_option maxRecDepth 100000 in
theorem c_L_addChoice (l : Launch) (G : gG) (A : Nat → Prop) (hl0 : l.stackTraces = false) (kd : Nat → Nat) (hkd : G.2.2 = kd) (x1 : Nat) (x2 : Nat) (μ : Mm) (post : Int32 → Mm → Prop) (h : wp_L_addChoice kd x1 x2 μ post) : Met l yL_addChoice (.codeWith yL_addChoice cL_addChoice 3 (some .int) [(0, 8, 11, 15)] :: wsA) (rmL (6) 6 29) (PcG G A μ [.ref x1, .ref x2]) (QG G A (pI post)) 6 29 A := by
  refine met_JW (loc := [(0, .ref x1), (1, .ref x2)]) (by decide +kernel) (Nat.le_of_ble_eq_true rfl) rfl ?_
  intro p e s m args below meth c X htab
  have X : Cx p l s m args meth c cL_addChoice 3 (some .int) RL G A := X
  have hw := h
  unfold wp_L_addChoice at hw
  refine j_aload_n X (pc' := 1) (kk := 1) (i := 1) 1 rfl rfl dL_addChoice_0 rfl ?_
  refine j_iconst X (pc' := 2) (v := 0) (by decide) dL_addChoice_1 rfl ?_
  refine j_aload_n X (pc' := 3) (kk := 0) (i := 0) 0 rfl rfl dL_addChoice_2 rfl ?_
  obtain ⟨⟨f10, hm9⟩, hw1⟩ := hw
  refine j_tryVi (As := []) (rest := [.int ((0 : Int32)), .ref x2]) X (pc' := 6) (cells' := 6) (slots' := 29) htab (c_X6_addChoice l G A hl0 kd hkd x1 μ _ _ hw1) (gk_X6_addChoice wt_2_171) hd_X6_addChoice (rmL_fit (k1 := 5) (k := 6) (by omega) (by decide)) hm9 rfl rfl rfl (Nat.le_of_ble_eq_true rfl) dL_addChoice_3 rfl ⟨Nat.le_of_ble_eq_true rfl, Nat.le_of_ble_eq_true rfl⟩ rfl rfl (fun E9 μ9 hx => ?_) (fun r1 μ2 hw2 => ?_)
  · obtain ⟨rfl, hwx⟩ := hx
    refine ⟨(List.mem_of_getElem? (i := 1) rfl), [], ⟨0, 8, 11, 15⟩, [], rfl, fun z hz => absurd hz List.not_mem_nil, rfl, by decide, wt_1_153, fun q9 => ?_⟩
    have hw3 := hwx
    refine j_astore_n X (pc' := 12) (kk := 2) (i := 2) (loc' := [(2, .ref q9), (0, .ref x1), (1, .ref x2)]) dL_addChoice_11 rfl rfl (by decide) rfl ?_
    refine j_iconst X (pc' := 13) (v := 1) (by decide) dL_addChoice_12 rfl ?_
    exact j_iret X ⟨_, rfl, hw3⟩ (Nat.le_of_ble_eq_true rfl) (Nat.le_of_ble_eq_true rfl) dL_addChoice_13
  · refine j_i2l X (pc' := 7) dL_addChoice_6 rfl ?_
    obtain ⟨n3, f4, hm5, hi6, hw4⟩ := hw2
    refine jp_last X (pc' := 8) hm5 hi6 dL_addChoice_7 rfl (fun μ7 e8 => ?_)
    have hw5 := hw4 μ7 e8
    refine j_goto X (tgt := 14) dL_addChoice_8 (by decide) ?_
    refine j_iconst X (pc' := 15) (v := 0) (by decide) dL_addChoice_14 rfl ?_
    exact j_iret X ⟨_, rfl, hw5⟩ (Nat.le_of_ble_eq_true rfl) (Nat.le_of_ble_eq_true rfl) dL_addChoice_15
theorem hd_L_extend : yL_extend.cls ≠ "java/lang/invoke/MethodHandle" ∧ yL_extend.cls ≠ "java/lang/invoke/VarHandle" ∧ (parseMethodDescriptor yL_extend.desc).map (fun d => d.parameters.length) = some 4 := ⟨by decide +kernel, by decide +kernel, by decide +kernel⟩
theorem gk_L_extend {own : String} {idx : Nat} (h : Cond.methodLink own idx yL_extend ∈ wsA) : GoodIn wsA (va_wsS own idx yL_extend (.codeWith yL_extend cL_extend 5 (some .int) [(0, 10, 13, 21), (0, 10, 17, 13), (0, 10, 21, 15)] :: wsA)) := gd_S h wt_2_177 wt_1_0 wt_2_178
/-! BitNotationLaw.extend(LBitNotation;II[J)I -/
theorem dL_extend_0 : decode cL_extend 0 = .ok (.aload_n 3, 1) := by decide +kernel
theorem dL_extend_1 : decode cL_extend 1 = .ok (.iconst 0, 1) := by decide +kernel
theorem dL_extend_2 : decode cL_extend 2 = .ok (.aload_n 0, 1) := by decide +kernel
theorem dL_extend_3 : decode cL_extend 3 = .ok (.iload_n 1, 1) := by decide +kernel
theorem dL_extend_4 : decode cL_extend 4 = .ok (.iload_n 2, 1) := by decide +kernel
theorem dL_extend_5 : decode cL_extend 5 = .ok (.invokevirtual 34, 3) := by decide +kernel
theorem dL_extend_8 : decode cL_extend 8 = .ok (.i2l, 1) := by decide +kernel
theorem dL_extend_9 : decode cL_extend 9 = .ok (.lastore, 1) := by decide +kernel
theorem dL_extend_10 : decode cL_extend 10 = .ok (.goto 15, 3) := by decide +kernel
theorem dL_extend_13 : decode cL_extend 13 = .ok (.astore 4, 2) := by decide +kernel
theorem dL_extend_15 : decode cL_extend 15 = .ok (.iconst 1, 1) := by decide +kernel
theorem dL_extend_16 : decode cL_extend 16 = .ok (.ireturn, 1) := by decide +kernel
theorem dL_extend_17 : decode cL_extend 17 = .ok (.astore 4, 2) := by decide +kernel
theorem dL_extend_19 : decode cL_extend 19 = .ok (.iconst 2, 1) := by decide +kernel
theorem dL_extend_20 : decode cL_extend 20 = .ok (.ireturn, 1) := by decide +kernel
theorem dL_extend_21 : decode cL_extend 21 = .ok (.astore 4, 2) := by decide +kernel
theorem dL_extend_23 : decode cL_extend 23 = .ok (.iconst 3, 1) := by decide +kernel
theorem dL_extend_24 : decode cL_extend 24 = .ok (.ireturn, 1) := by decide +kernel
theorem dL_extend_25 : decode cL_extend 25 = .ok (.iconst 0, 1) := by decide +kernel
theorem dL_extend_26 : decode cL_extend 26 = .ok (.ireturn, 1) := by decide +kernel
def wp_L_extend (kd : Nat → Nat) (x1 : Nat) (x2 : Int32) (x3 : Int32) (x4 : Nat) (μ : Mm) (post : Int32 → Mm → Prop) : Prop := (∃ f10, μ x1 = some (.inl (5, f10))) ∧ wp_X6_extend x1 kd x2 x3 μ (fun r1 μ2 => ∃ n3 f4, μ2 x4 = some (eL n3 f4) ∧ vp_in (0 : Int32) n3 ∧ ∀ μ7, μ7 = ups μ2 x4 (eL n3 (vp_updL f4 (0 : Int32).toNatClampNeg r1.toInt64)) → post (0 : Int32) μ7) (fun E9 μ9 => (E9 = "java/lang/IndexOutOfBoundsException" ∧ post (1 : Int32) μ9) ∨ (E9 = "java/lang/IllegalArgumentException" ∧ post (2 : Int32) μ9) ∨ (E9 = "java/lang/IllegalStateException" ∧ post (3 : Int32) μ9))
set_option maxHeartbeats 4000000 in
set_option maxRecDepth 100000 in
theorem c_L_extend (l : Launch) (G : gG) (A : Nat → Prop) (hl0 : l.stackTraces = false) (kd : Nat → Nat) (hkd : G.2.2 = kd) (x1 : Nat) (x2 : Int32) (x3 : Int32) (x4 : Nat) (μ : Mm) (post : Int32 → Mm → Prop) (h : wp_L_extend kd x1 x2 x3 x4 μ post) : Met l yL_extend (.codeWith yL_extend cL_extend 5 (some .int) [(0, 10, 13, 21), (0, 10, 17, 13), (0, 10, 21, 15)] :: wsA) (rmL (5) 3 18) (PcG G A μ [.ref x1, .int x2, .int x3, .ref x4]) (QG G A (pI post)) 3 18 A := by
  refine met_JW (loc := [(0, .ref x1), (1, .int x2), (2, .int x3), (3, .ref x4)]) (by decide +kernel) (Nat.le_of_ble_eq_true rfl) rfl ?_
  intro p e s m args below meth c X htab
  have X : Cx p l s m args meth c cL_extend 5 (some .int) RL G A := X
  have hw := h
  unfold wp_L_extend at hw
  refine j_aload_n X (pc' := 1) (kk := 3) (i := 3) 3 rfl rfl dL_extend_0 rfl ?_
  refine j_iconst X (pc' := 2) (v := 0) (by decide) dL_extend_1 rfl ?_
  refine j_aload_n X (pc' := 3) (kk := 0) (i := 0) 0 rfl rfl dL_extend_2 rfl ?_
  refine j_iload_n X (pc' := 4) (kk := 1) (i := 1) 1 rfl rfl dL_extend_3 rfl ?_
  refine j_iload_n X (pc' := 5) (kk := 2) (i := 2) 2 rfl rfl dL_extend_4 rfl ?_
  obtain ⟨⟨f10, hm9⟩, hw1⟩ := hw
  refine j_tryVi (As := [.int x2, .int x3]) (rest := [.int ((0 : Int32)), .ref x4]) X (pc' := 8) (cells' := 3) (slots' := 18) htab (c_X6_extend l G A hl0 kd hkd x1 x2 x3 μ _ _ hw1) (gk_X6_extend wt_2_179) hd_X6_extend (rmL_fit (k1 := 4) (k := 5) (by omega) (by decide)) hm9 rfl rfl rfl (Nat.le_of_ble_eq_true rfl) dL_extend_5 rfl ⟨Nat.le_of_ble_eq_true rfl, Nat.le_of_ble_eq_true rfl⟩ rfl rfl (fun E9 μ9 hx => ?_) (fun r1 μ2 hw2 => ?_)
  · rcases hx with ⟨rfl, hwx⟩ | ⟨rfl, hwx⟩ | ⟨rfl, hwx⟩
    · refine ⟨(List.mem_of_getElem? (i := 2) rfl), [], ⟨0, 10, 13, 21⟩, [⟨0, 10, 17, 13⟩, ⟨0, 10, 21, 15⟩], rfl, fun z hz => absurd hz List.not_mem_nil, rfl, by decide, wt_2_119, fun q9 => ?_⟩
      have hw3 := hwx
      refine j_astore X (pc' := 15) (i := 4) (loc' := [(4, .ref q9), (0, .ref x1), (1, .int x2), (2, .int x3), (3, .ref x4)]) dL_extend_13 rfl (by decide) rfl ?_
      refine j_iconst X (pc' := 16) (v := 1) (by decide) dL_extend_15 rfl ?_
      exact j_iret X ⟨_, rfl, hw3⟩ (Nat.le_of_ble_eq_true rfl) (Nat.le_of_ble_eq_true rfl) dL_extend_16
    · refine ⟨(List.mem_of_getElem? (i := 0) rfl), [⟨0, 10, 13, 21⟩], ⟨0, 10, 17, 13⟩, [⟨0, 10, 21, 15⟩], rfl, List.forall_mem_cons.mpr ⟨⟨by decide, "java/lang/IndexOutOfBoundsException", (List.mem_of_getElem? (i := 2) rfl), by decide, wt_2_119⟩, fun z hz => absurd hz List.not_mem_nil⟩, rfl, by decide, wt_1_152, fun q9 => ?_⟩
      have hw4 := hwx
      refine j_astore X (pc' := 19) (i := 4) (loc' := [(4, .ref q9), (0, .ref x1), (1, .int x2), (2, .int x3), (3, .ref x4)]) dL_extend_17 rfl (by decide) rfl ?_
      refine j_iconst X (pc' := 20) (v := 2) (by decide) dL_extend_19 rfl ?_
      exact j_iret X ⟨_, rfl, hw4⟩ (Nat.le_of_ble_eq_true rfl) (Nat.le_of_ble_eq_true rfl) dL_extend_20
    · refine ⟨(List.mem_of_getElem? (i := 1) rfl), [⟨0, 10, 13, 21⟩, ⟨0, 10, 17, 13⟩], ⟨0, 10, 21, 15⟩, [], rfl, List.forall_mem_cons.mpr ⟨⟨by decide, "java/lang/IndexOutOfBoundsException", (List.mem_of_getElem? (i := 2) rfl), by decide, wt_2_119⟩, List.forall_mem_cons.mpr ⟨⟨by decide, "java/lang/IllegalArgumentException", (List.mem_of_getElem? (i := 0) rfl), by decide, wt_1_152⟩, fun z hz => absurd hz List.not_mem_nil⟩⟩, rfl, by decide, wt_1_153, fun q9 => ?_⟩
      have hw5 := hwx
      refine j_astore X (pc' := 23) (i := 4) (loc' := [(4, .ref q9), (0, .ref x1), (1, .int x2), (2, .int x3), (3, .ref x4)]) dL_extend_21 rfl (by decide) rfl ?_
      refine j_iconst X (pc' := 24) (v := 3) (by decide) dL_extend_23 rfl ?_
      exact j_iret X ⟨_, rfl, hw5⟩ (Nat.le_of_ble_eq_true rfl) (Nat.le_of_ble_eq_true rfl) dL_extend_24
  · refine j_i2l X (pc' := 9) dL_extend_8 rfl ?_
    obtain ⟨n3, f4, hm5, hi6, hw6⟩ := hw2
    refine jp_last X (pc' := 10) hm5 hi6 dL_extend_9 rfl (fun μ7 e8 => ?_)
    have hw7 := hw6 μ7 e8
    refine j_goto X (tgt := 25) dL_extend_10 (by decide) ?_
    refine j_iconst X (pc' := 26) (v := 0) (by decide) dL_extend_25 rfl ?_
    exact j_iret X ⟨_, rfl, hw7⟩ (Nat.le_of_ble_eq_true rfl) (Nat.le_of_ble_eq_true rfl) dL_extend_26
theorem hd_L_leastBits : yL_leastBits.cls ≠ "java/lang/invoke/MethodHandle" ∧ yL_leastBits.cls ≠ "java/lang/invoke/VarHandle" ∧ (parseMethodDescriptor yL_leastBits.desc).map (fun d => d.parameters.length) = some 3 := ⟨by decide +kernel, by decide +kernel, by decide +kernel⟩
theorem gk_L_leastBits {own : String} {idx : Nat} (h : Cond.methodLink own idx yL_leastBits ∈ wsA) : GoodIn wsA (va_wsS own idx yL_leastBits (.codeWith yL_leastBits cL_leastBits 4 (some .int) [(0, 9, 12, 21)] :: wsA)) := gd_S h wt_2_197 wt_1_0 wt_2_198
/-! BitNotationLaw.leastBits(LBitNotation;I[J)I -/
theorem dL_leastBits_0 : decode cL_leastBits 0 = .ok (.aload_n 2, 1) := by decide +kernel
theorem dL_leastBits_1 : decode cL_leastBits 1 = .ok (.iconst 0, 1) := by decide +kernel
theorem dL_leastBits_2 : decode cL_leastBits 2 = .ok (.aload_n 0, 1) := by decide +kernel
theorem dL_leastBits_3 : decode cL_leastBits 3 = .ok (.iload_n 1, 1) := by decide +kernel
theorem dL_leastBits_4 : decode cL_leastBits 4 = .ok (.invokevirtual 37, 3) := by decide +kernel
theorem dL_leastBits_7 : decode cL_leastBits 7 = .ok (.i2l, 1) := by decide +kernel
theorem dL_leastBits_8 : decode cL_leastBits 8 = .ok (.lastore, 1) := by decide +kernel
theorem dL_leastBits_9 : decode cL_leastBits 9 = .ok (.goto 6, 3) := by decide +kernel
theorem dL_leastBits_12 : decode cL_leastBits 12 = .ok (.astore_n 3, 1) := by decide +kernel
theorem dL_leastBits_13 : decode cL_leastBits 13 = .ok (.iconst 1, 1) := by decide +kernel
theorem dL_leastBits_14 : decode cL_leastBits 14 = .ok (.ireturn, 1) := by decide +kernel
theorem dL_leastBits_15 : decode cL_leastBits 15 = .ok (.iconst 0, 1) := by decide +kernel
theorem dL_leastBits_16 : decode cL_leastBits 16 = .ok (.ireturn, 1) := by decide +kernel
def wp_L_leastBits (x1 : Nat) (x2 : Int32) (x3 : Nat) (μ : Mm) (post : Int32 → Mm → Prop) : Prop := (∃ f10, μ x1 = some (.inl (5, f10))) ∧ wp_X6_leastBits x1 x2 μ (fun r1 μ2 => ∃ n3 f4, μ2 x3 = some (eL n3 f4) ∧ vp_in (0 : Int32) n3 ∧ ∀ μ7, μ7 = ups μ2 x3 (eL n3 (vp_updL f4 (0 : Int32).toNatClampNeg r1.toInt64)) → post (0 : Int32) μ7) (fun E9 μ9 => (E9 = "java/lang/IndexOutOfBoundsException" ∧ post (1 : Int32) μ9))
set_option maxHeartbeats 4000000 in
set_option maxRecDepth 100000 in
theorem c_L_leastBits (l : Launch) (G : gG) (A : Nat → Prop) (hl0 : l.stackTraces = false) (x1 : Nat) (x2 : Int32) (x3 : Nat) (μ : Mm) (post : Int32 → Mm → Prop) (h : wp_L_leastBits x1 x2 x3 μ post) : Met l yL_leastBits (.codeWith yL_leastBits cL_leastBits 4 (some .int) [(0, 9, 12, 21)] :: wsA) (rmL (3) 1 6) (PcG G A μ [.ref x1, .int x2, .ref x3]) (QG G A (pI post)) 1 6 A := by
  refine met_JW (loc := [(0, .ref x1), (1, .int x2), (2, .ref x3)]) (by decide +kernel) (Nat.le_of_ble_eq_true rfl) rfl ?_
  intro p e s m args below meth c X htab
  have X : Cx p l s m args meth c cL_leastBits 4 (some .int) RL G A := X
  have hw := h
  unfold wp_L_leastBits at hw
  refine j_aload_n X (pc' := 1) (kk := 2) (i := 2) 2 rfl rfl dL_leastBits_0 rfl ?_
  refine j_iconst X (pc' := 2) (v := 0) (by decide) dL_leastBits_1 rfl ?_
  refine j_aload_n X (pc' := 3) (kk := 0) (i := 0) 0 rfl rfl dL_leastBits_2 rfl ?_
  refine j_iload_n X (pc' := 4) (kk := 1) (i := 1) 1 rfl rfl dL_leastBits_3 rfl ?_
  obtain ⟨⟨f10, hm9⟩, hw1⟩ := hw
  refine j_tryVi (As := [.int x2]) (rest := [.int ((0 : Int32)), .ref x3]) X (pc' := 7) (cells' := 1) (slots' := 6) htab (c_X6_leastBits l G A hl0 x1 x2 μ _ _ hw1) (gk_X6_leastBits wt_2_199) hd_X6_leastBits (rmL_fit (k1 := 2) (k := 3) (by omega) (by decide)) hm9 rfl rfl rfl (Nat.le_of_ble_eq_true rfl) dL_leastBits_4 rfl ⟨Nat.le_of_ble_eq_true rfl, Nat.le_of_ble_eq_true rfl⟩ rfl rfl (fun E9 μ9 hx => ?_) (fun r1 μ2 hw2 => ?_)
  · obtain ⟨rfl, hwx⟩ := hx
    refine ⟨(List.mem_of_getElem? (i := 2) rfl), [], ⟨0, 9, 12, 21⟩, [], rfl, fun z hz => absurd hz List.not_mem_nil, rfl, by decide, wt_2_119, fun q9 => ?_⟩
    have hw3 := hwx
    refine j_astore_n X (pc' := 13) (kk := 3) (i := 3) (loc' := [(3, .ref q9), (0, .ref x1), (1, .int x2), (2, .ref x3)]) dL_leastBits_12 rfl rfl (by decide) rfl ?_
    refine j_iconst X (pc' := 14) (v := 1) (by decide) dL_leastBits_13 rfl ?_
    exact j_iret X ⟨_, rfl, hw3⟩ (Nat.le_of_ble_eq_true rfl) (Nat.le_of_ble_eq_true rfl) dL_leastBits_14
  · refine j_i2l X (pc' := 8) dL_leastBits_7 rfl ?_
    obtain ⟨n3, f4, hm5, hi6, hw4⟩ := hw2
    refine jp_last X (pc' := 9) hm5 hi6 dL_leastBits_8 rfl (fun μ7 e8 => ?_)
    have hw5 := hw4 μ7 e8
    refine j_goto X (tgt := 15) dL_leastBits_9 (by decide) ?_
    refine j_iconst X (pc' := 16) (v := 0) (by decide) dL_leastBits_15 rfl ?_
    exact j_iret X ⟨_, rfl, hw5⟩ (Nat.le_of_ble_eq_true rfl) (Nat.le_of_ble_eq_true rfl) dL_leastBits_16
theorem hd_L_mostBits : yL_mostBits.cls ≠ "java/lang/invoke/MethodHandle" ∧ yL_mostBits.cls ≠ "java/lang/invoke/VarHandle" ∧ (parseMethodDescriptor yL_mostBits.desc).map (fun d => d.parameters.length) = some 3 := ⟨by decide +kernel, by decide +kernel, by decide +kernel⟩
theorem gk_L_mostBits {own : String} {idx : Nat} (h : Cond.methodLink own idx yL_mostBits ∈ wsA) : GoodIn wsA (va_wsS own idx yL_mostBits (.codeWith yL_mostBits cL_mostBits 4 (some .int) [(0, 9, 12, 21)] :: wsA)) := gd_S h wt_2_204 wt_1_0 wt_2_205
/-! BitNotationLaw.mostBits(LBitNotation;I[J)I -/
theorem dL_mostBits_0 : decode cL_mostBits 0 = .ok (.aload_n 2, 1) := by decide +kernel
theorem dL_mostBits_1 : decode cL_mostBits 1 = .ok (.iconst 0, 1) := by decide +kernel
theorem dL_mostBits_2 : decode cL_mostBits 2 = .ok (.aload_n 0, 1) := by decide +kernel
theorem dL_mostBits_3 : decode cL_mostBits 3 = .ok (.iload_n 1, 1) := by decide +kernel
theorem dL_mostBits_4 : decode cL_mostBits 4 = .ok (.invokevirtual 41, 3) := by decide +kernel
theorem dL_mostBits_7 : decode cL_mostBits 7 = .ok (.i2l, 1) := by decide +kernel
theorem dL_mostBits_8 : decode cL_mostBits 8 = .ok (.lastore, 1) := by decide +kernel
theorem dL_mostBits_9 : decode cL_mostBits 9 = .ok (.goto 6, 3) := by decide +kernel
theorem dL_mostBits_12 : decode cL_mostBits 12 = .ok (.astore_n 3, 1) := by decide +kernel
theorem dL_mostBits_13 : decode cL_mostBits 13 = .ok (.iconst 1, 1) := by decide +kernel
theorem dL_mostBits_14 : decode cL_mostBits 14 = .ok (.ireturn, 1) := by decide +kernel
theorem dL_mostBits_15 : decode cL_mostBits 15 = .ok (.iconst 0, 1) := by decide +kernel
theorem dL_mostBits_16 : decode cL_mostBits 16 = .ok (.ireturn, 1) := by decide +kernel
def wp_L_mostBits (x1 : Nat) (x2 : Int32) (x3 : Nat) (μ : Mm) (post : Int32 → Mm → Prop) : Prop := (∃ f10, μ x1 = some (.inl (5, f10))) ∧ wp_X6_mostBits x1 x2 μ (fun r1 μ2 => ∃ n3 f4, μ2 x3 = some (eL n3 f4) ∧ vp_in (0 : Int32) n3 ∧ ∀ μ7, μ7 = ups μ2 x3 (eL n3 (vp_updL f4 (0 : Int32).toNatClampNeg r1.toInt64)) → post (0 : Int32) μ7) (fun E9 μ9 => (E9 = "java/lang/IndexOutOfBoundsException" ∧ post (1 : Int32) μ9))
set_option maxHeartbeats 4000000 in
set_option maxRecDepth 100000 in
theorem c_L_mostBits (l : Launch) (G : gG) (A : Nat → Prop) (hl0 : l.stackTraces = false) (x1 : Nat) (x2 : Int32) (x3 : Nat) (μ : Mm) (post : Int32 → Mm → Prop) (h : wp_L_mostBits x1 x2 x3 μ post) : Met l yL_mostBits (.codeWith yL_mostBits cL_mostBits 4 (some .int) [(0, 9, 12, 21)] :: wsA) (rmL (3) 1 6) (PcG G A μ [.ref x1, .int x2, .ref x3]) (QG G A (pI post)) 1 6 A := by
  refine met_JW (loc := [(0, .ref x1), (1, .int x2), (2, .ref x3)]) (by decide +kernel) (Nat.le_of_ble_eq_true rfl) rfl ?_
  intro p e s m args below meth c X htab
  have X : Cx p l s m args meth c cL_mostBits 4 (some .int) RL G A := X
  have hw := h
  unfold wp_L_mostBits at hw
  refine j_aload_n X (pc' := 1) (kk := 2) (i := 2) 2 rfl rfl dL_mostBits_0 rfl ?_
  refine j_iconst X (pc' := 2) (v := 0) (by decide) dL_mostBits_1 rfl ?_
  refine j_aload_n X (pc' := 3) (kk := 0) (i := 0) 0 rfl rfl dL_mostBits_2 rfl ?_
  refine j_iload_n X (pc' := 4) (kk := 1) (i := 1) 1 rfl rfl dL_mostBits_3 rfl ?_
  obtain ⟨⟨f10, hm9⟩, hw1⟩ := hw
  refine j_tryVi (As := [.int x2]) (rest := [.int ((0 : Int32)), .ref x3]) X (pc' := 7) (cells' := 1) (slots' := 6) htab (c_X6_mostBits l G A hl0 x1 x2 μ _ _ hw1) (gk_X6_mostBits wt_2_206) hd_X6_mostBits (rmL_fit (k1 := 2) (k := 3) (by omega) (by decide)) hm9 rfl rfl rfl (Nat.le_of_ble_eq_true rfl) dL_mostBits_4 rfl ⟨Nat.le_of_ble_eq_true rfl, Nat.le_of_ble_eq_true rfl⟩ rfl rfl (fun E9 μ9 hx => ?_) (fun r1 μ2 hw2 => ?_)
  · obtain ⟨rfl, hwx⟩ := hx
    refine ⟨(List.mem_of_getElem? (i := 2) rfl), [], ⟨0, 9, 12, 21⟩, [], rfl, fun z hz => absurd hz List.not_mem_nil, rfl, by decide, wt_2_119, fun q9 => ?_⟩
    have hw3 := hwx
    refine j_astore_n X (pc' := 13) (kk := 3) (i := 3) (loc' := [(3, .ref q9), (0, .ref x1), (1, .int x2), (2, .ref x3)]) dL_mostBits_12 rfl rfl (by decide) rfl ?_
    refine j_iconst X (pc' := 14) (v := 1) (by decide) dL_mostBits_13 rfl ?_
    exact j_iret X ⟨_, rfl, hw3⟩ (Nat.le_of_ble_eq_true rfl) (Nat.le_of_ble_eq_true rfl) dL_mostBits_14
  · refine j_i2l X (pc' := 8) dL_mostBits_7 rfl ?_
    obtain ⟨n3, f4, hm5, hi6, hw4⟩ := hw2
    refine jp_last X (pc' := 9) hm5 hi6 dL_mostBits_8 rfl (fun μ7 e8 => ?_)
    have hw5 := hw4 μ7 e8
    refine j_goto X (tgt := 15) dL_mostBits_9 (by decide) ?_
    refine j_iconst X (pc' := 16) (v := 0) (by decide) dL_mostBits_15 rfl ?_
    exact j_iret X ⟨_, rfl, hw5⟩ (Nat.le_of_ble_eq_true rfl) (Nat.le_of_ble_eq_true rfl) dL_mostBits_16
theorem hd_L_tell : yL_tell.cls ≠ "java/lang/invoke/MethodHandle" ∧ yL_tell.cls ≠ "java/lang/invoke/VarHandle" ∧ (parseMethodDescriptor yL_tell.desc).map (fun d => d.parameters.length) = some 3 := ⟨by decide +kernel, by decide +kernel, by decide +kernel⟩
theorem gk_L_tell {own : String} {idx : Nat} (h : Cond.methodLink own idx yL_tell ∈ wsA) : GoodIn wsA (va_wsS own idx yL_tell (.codeWith yL_tell cL_tell 4 (some .int) [(0, 9, 12, 13), (0, 9, 15, 15)] :: wsA)) := gd_S h wt_2_211 wt_1_0 wt_2_212
/-! BitNotationLaw.tell(LBitNotation;I[J)I -/
theorem dL_tell_0 : decode cL_tell 0 = .ok (.aload_n 2, 1) := by decide +kernel
theorem dL_tell_1 : decode cL_tell 1 = .ok (.iconst 0, 1) := by decide +kernel
theorem dL_tell_2 : decode cL_tell 2 = .ok (.aload_n 0, 1) := by decide +kernel
theorem dL_tell_3 : decode cL_tell 3 = .ok (.iload_n 1, 1) := by decide +kernel
theorem dL_tell_4 : decode cL_tell 4 = .ok (.invokevirtual 44, 3) := by decide +kernel
theorem dL_tell_7 : decode cL_tell 7 = .ok (.i2l, 1) := by decide +kernel
theorem dL_tell_8 : decode cL_tell 8 = .ok (.lastore, 1) := by decide +kernel
theorem dL_tell_9 : decode cL_tell 9 = .ok (.goto 9, 3) := by decide +kernel
theorem dL_tell_12 : decode cL_tell 12 = .ok (.astore_n 3, 1) := by decide +kernel
theorem dL_tell_13 : decode cL_tell 13 = .ok (.iconst 1, 1) := by decide +kernel
theorem dL_tell_14 : decode cL_tell 14 = .ok (.ireturn, 1) := by decide +kernel
theorem dL_tell_15 : decode cL_tell 15 = .ok (.astore_n 3, 1) := by decide +kernel
theorem dL_tell_16 : decode cL_tell 16 = .ok (.iconst 2, 1) := by decide +kernel
theorem dL_tell_17 : decode cL_tell 17 = .ok (.ireturn, 1) := by decide +kernel
theorem dL_tell_18 : decode cL_tell 18 = .ok (.iconst 0, 1) := by decide +kernel
theorem dL_tell_19 : decode cL_tell 19 = .ok (.ireturn, 1) := by decide +kernel
def wp_L_tell (x1 : Nat) (x2 : Int32) (x3 : Nat) (μ : Mm) (post : Int32 → Mm → Prop) : Prop := (∃ f10, μ x1 = some (.inl (5, f10))) ∧ wp_X6_tell x1 x2 μ (fun r1 μ2 => ∃ n3 f4, μ2 x3 = some (eL n3 f4) ∧ vp_in (0 : Int32) n3 ∧ ∀ μ7, μ7 = ups μ2 x3 (eL n3 (vp_updL f4 (0 : Int32).toNatClampNeg r1.toInt64)) → post (0 : Int32) μ7) (fun E9 μ9 => (E9 = "java/lang/IllegalArgumentException" ∧ post (1 : Int32) μ9) ∨ (E9 = "java/lang/IllegalStateException" ∧ post (2 : Int32) μ9))
set_option maxHeartbeats 4000000 in
set_option maxRecDepth 100000 in
theorem c_L_tell (l : Launch) (G : gG) (A : Nat → Prop) (hl0 : l.stackTraces = false) (x1 : Nat) (x2 : Int32) (x3 : Nat) (μ : Mm) (post : Int32 → Mm → Prop) (h : wp_L_tell x1 x2 x3 μ post) : Met l yL_tell (.codeWith yL_tell cL_tell 4 (some .int) [(0, 9, 12, 13), (0, 9, 15, 15)] :: wsA) (rmL (2) 1 6) (PcG G A μ [.ref x1, .int x2, .ref x3]) (QG G A (pI post)) 1 6 A := by
  refine met_JW (loc := [(0, .ref x1), (1, .int x2), (2, .ref x3)]) (by decide +kernel) (Nat.le_of_ble_eq_true rfl) rfl ?_
  intro p e s m args below meth c X htab
  have X : Cx p l s m args meth c cL_tell 4 (some .int) RL G A := X
  have hw := h
  unfold wp_L_tell at hw
  refine j_aload_n X (pc' := 1) (kk := 2) (i := 2) 2 rfl rfl dL_tell_0 rfl ?_
  refine j_iconst X (pc' := 2) (v := 0) (by decide) dL_tell_1 rfl ?_
  refine j_aload_n X (pc' := 3) (kk := 0) (i := 0) 0 rfl rfl dL_tell_2 rfl ?_
  refine j_iload_n X (pc' := 4) (kk := 1) (i := 1) 1 rfl rfl dL_tell_3 rfl ?_
  obtain ⟨⟨f10, hm9⟩, hw1⟩ := hw
  refine j_tryVi (As := [.int x2]) (rest := [.int ((0 : Int32)), .ref x3]) X (pc' := 7) (cells' := 1) (slots' := 6) htab (c_X6_tell l G A hl0 x1 x2 μ _ _ hw1) (gk_X6_tell wt_2_213) hd_X6_tell (rmL_fit (k1 := 1) (k := 2) (by omega) (by decide)) hm9 rfl rfl rfl (Nat.le_of_ble_eq_true rfl) dL_tell_4 rfl ⟨Nat.le_of_ble_eq_true rfl, Nat.le_of_ble_eq_true rfl⟩ rfl rfl (fun E9 μ9 hx => ?_) (fun r1 μ2 hw2 => ?_)
  · rcases hx with ⟨rfl, hwx⟩ | ⟨rfl, hwx⟩
    · refine ⟨(List.mem_of_getElem? (i := 0) rfl), [], ⟨0, 9, 12, 13⟩, [⟨0, 9, 15, 15⟩], rfl, fun z hz => absurd hz List.not_mem_nil, rfl, by decide, wt_1_152, fun q9 => ?_⟩
      have hw3 := hwx
      refine j_astore_n X (pc' := 13) (kk := 3) (i := 3) (loc' := [(3, .ref q9), (0, .ref x1), (1, .int x2), (2, .ref x3)]) dL_tell_12 rfl rfl (by decide) rfl ?_
      refine j_iconst X (pc' := 14) (v := 1) (by decide) dL_tell_13 rfl ?_
      exact j_iret X ⟨_, rfl, hw3⟩ (Nat.le_of_ble_eq_true rfl) (Nat.le_of_ble_eq_true rfl) dL_tell_14
    · refine ⟨(List.mem_of_getElem? (i := 1) rfl), [⟨0, 9, 12, 13⟩], ⟨0, 9, 15, 15⟩, [], rfl, List.forall_mem_cons.mpr ⟨⟨by decide, "java/lang/IllegalArgumentException", (List.mem_of_getElem? (i := 0) rfl), by decide, wt_1_152⟩, fun z hz => absurd hz List.not_mem_nil⟩, rfl, by decide, wt_1_153, fun q9 => ?_⟩
      have hw4 := hwx
      refine j_astore_n X (pc' := 16) (kk := 3) (i := 3) (loc' := [(3, .ref q9), (0, .ref x1), (1, .int x2), (2, .ref x3)]) dL_tell_15 rfl rfl (by decide) rfl ?_
      refine j_iconst X (pc' := 17) (v := 2) (by decide) dL_tell_16 rfl ?_
      exact j_iret X ⟨_, rfl, hw4⟩ (Nat.le_of_ble_eq_true rfl) (Nat.le_of_ble_eq_true rfl) dL_tell_17
  · refine j_i2l X (pc' := 8) dL_tell_7 rfl ?_
    obtain ⟨n3, f4, hm5, hi6, hw5⟩ := hw2
    refine jp_last X (pc' := 9) hm5 hi6 dL_tell_8 rfl (fun μ7 e8 => ?_)
    have hw6 := hw5 μ7 e8
    refine j_goto X (tgt := 18) dL_tell_9 (by decide) ?_
    refine j_iconst X (pc' := 19) (v := 0) (by decide) dL_tell_18 rfl ?_
    exact j_iret X ⟨_, rfl, hw6⟩ (Nat.le_of_ble_eq_true rfl) (Nat.le_of_ble_eq_true rfl) dL_tell_19
theorem hd_L_told : yL_told.cls ≠ "java/lang/invoke/MethodHandle" ∧ yL_told.cls ≠ "java/lang/invoke/VarHandle" ∧ (parseMethodDescriptor yL_told.desc).map (fun d => d.parameters.length) = some 3 := ⟨by decide +kernel, by decide +kernel, by decide +kernel⟩
theorem gk_L_told {own : String} {idx : Nat} (h : Cond.methodLink own idx yL_told ∈ wsA) : GoodIn wsA (va_wsS own idx yL_told (.codeWith yL_told cL_told 4 (some .int) [(0, 9, 12, 21)] :: wsA)) := gd_S h wt_2_228 wt_1_0 wt_2_229
/-! BitNotationLaw.told(LBitNotation;I[J)I -/
theorem dL_told_0 : decode cL_told 0 = .ok (.aload_n 2, 1) := by decide +kernel
theorem dL_told_1 : decode cL_told 1 = .ok (.iconst 0, 1) := by decide +kernel
theorem dL_told_2 : decode cL_told 2 = .ok (.aload_n 0, 1) := by decide +kernel
theorem dL_told_3 : decode cL_told 3 = .ok (.iload_n 1, 1) := by decide +kernel
theorem dL_told_4 : decode cL_told 4 = .ok (.invokevirtual 47, 3) := by decide +kernel
theorem dL_told_7 : decode cL_told 7 = .ok (.i2l, 1) := by decide +kernel
theorem dL_told_8 : decode cL_told 8 = .ok (.lastore, 1) := by decide +kernel
theorem dL_told_9 : decode cL_told 9 = .ok (.goto 6, 3) := by decide +kernel
theorem dL_told_12 : decode cL_told 12 = .ok (.astore_n 3, 1) := by decide +kernel
theorem dL_told_13 : decode cL_told 13 = .ok (.iconst 1, 1) := by decide +kernel
theorem dL_told_14 : decode cL_told 14 = .ok (.ireturn, 1) := by decide +kernel
theorem dL_told_15 : decode cL_told 15 = .ok (.iconst 0, 1) := by decide +kernel
theorem dL_told_16 : decode cL_told 16 = .ok (.ireturn, 1) := by decide +kernel
def wp_L_told (x1 : Nat) (x2 : Int32) (x3 : Nat) (μ : Mm) (post : Int32 → Mm → Prop) : Prop := (∃ f10, μ x1 = some (.inl (5, f10))) ∧ wp_X6_told x1 x2 μ (fun r1 μ2 => ∃ n3 f4, μ2 x3 = some (eL n3 f4) ∧ vp_in (0 : Int32) n3 ∧ ∀ μ7, μ7 = ups μ2 x3 (eL n3 (vp_updL f4 (0 : Int32).toNatClampNeg r1.toInt64)) → post (0 : Int32) μ7) (fun E9 μ9 => (E9 = "java/lang/IndexOutOfBoundsException" ∧ post (1 : Int32) μ9))
set_option maxHeartbeats 4000000 in
set_option maxRecDepth 100000 in
theorem c_L_told (l : Launch) (G : gG) (A : Nat → Prop) (hl0 : l.stackTraces = false) (x1 : Nat) (x2 : Int32) (x3 : Nat) (μ : Mm) (post : Int32 → Mm → Prop) (h : wp_L_told x1 x2 x3 μ post) : Met l yL_told (.codeWith yL_told cL_told 4 (some .int) [(0, 9, 12, 21)] :: wsA) (rmL (2) 1 6) (PcG G A μ [.ref x1, .int x2, .ref x3]) (QG G A (pI post)) 1 6 A := by
  refine met_JW (loc := [(0, .ref x1), (1, .int x2), (2, .ref x3)]) (by decide +kernel) (Nat.le_of_ble_eq_true rfl) rfl ?_
  intro p e s m args below meth c X htab
  have X : Cx p l s m args meth c cL_told 4 (some .int) RL G A := X
  have hw := h
  unfold wp_L_told at hw
  refine j_aload_n X (pc' := 1) (kk := 2) (i := 2) 2 rfl rfl dL_told_0 rfl ?_
  refine j_iconst X (pc' := 2) (v := 0) (by decide) dL_told_1 rfl ?_
  refine j_aload_n X (pc' := 3) (kk := 0) (i := 0) 0 rfl rfl dL_told_2 rfl ?_
  refine j_iload_n X (pc' := 4) (kk := 1) (i := 1) 1 rfl rfl dL_told_3 rfl ?_
  obtain ⟨⟨f10, hm9⟩, hw1⟩ := hw
  refine j_tryVi (As := [.int x2]) (rest := [.int ((0 : Int32)), .ref x3]) X (pc' := 7) (cells' := 1) (slots' := 6) htab (c_X6_told l G A hl0 x1 x2 μ _ _ hw1) (gk_X6_told wt_2_230) hd_X6_told (rmL_fit (k1 := 1) (k := 2) (by omega) (by decide)) hm9 rfl rfl rfl (Nat.le_of_ble_eq_true rfl) dL_told_4 rfl ⟨Nat.le_of_ble_eq_true rfl, Nat.le_of_ble_eq_true rfl⟩ rfl rfl (fun E9 μ9 hx => ?_) (fun r1 μ2 hw2 => ?_)
  · obtain ⟨rfl, hwx⟩ := hx
    refine ⟨(List.mem_of_getElem? (i := 2) rfl), [], ⟨0, 9, 12, 21⟩, [], rfl, fun z hz => absurd hz List.not_mem_nil, rfl, by decide, wt_2_119, fun q9 => ?_⟩
    have hw3 := hwx
    refine j_astore_n X (pc' := 13) (kk := 3) (i := 3) (loc' := [(3, .ref q9), (0, .ref x1), (1, .int x2), (2, .ref x3)]) dL_told_12 rfl rfl (by decide) rfl ?_
    refine j_iconst X (pc' := 14) (v := 1) (by decide) dL_told_13 rfl ?_
    exact j_iret X ⟨_, rfl, hw3⟩ (Nat.le_of_ble_eq_true rfl) (Nat.le_of_ble_eq_true rfl) dL_told_14
  · refine j_i2l X (pc' := 8) dL_told_7 rfl ?_
    obtain ⟨n3, f4, hm5, hi6, hw4⟩ := hw2
    refine jp_last X (pc' := 9) hm5 hi6 dL_told_8 rfl (fun μ7 e8 => ?_)
    have hw5 := hw4 μ7 e8
    refine j_goto X (tgt := 15) dL_told_9 (by decide) ?_
    refine j_iconst X (pc' := 16) (v := 0) (by decide) dL_told_15 rfl ?_
    exact j_iret X ⟨_, rfl, hw5⟩ (Nat.le_of_ble_eq_true rfl) (Nat.le_of_ble_eq_true rfl) dL_told_16
theorem hd_L_wrongAt : yL_wrongAt.cls ≠ "java/lang/invoke/MethodHandle" ∧ yL_wrongAt.cls ≠ "java/lang/invoke/VarHandle" ∧ (parseMethodDescriptor yL_wrongAt.desc).map (fun d => d.parameters.length) = some 3 := ⟨by decide +kernel, by decide +kernel, by decide +kernel⟩
theorem gk_L_wrongAt {own : String} {idx : Nat} (h : Cond.methodLink own idx yL_wrongAt ∈ wsA) : GoodIn wsA (va_wsS own idx yL_wrongAt (.codeWith yL_wrongAt cL_wrongAt 4 (some .int) [(0, 9, 12, 21)] :: wsA)) := gd_S h wt_3_4 wt_1_0 wt_3_5
/-! BitNotationLaw.wrongAt(LBitNotation;I[J)I -/
theorem dL_wrongAt_0 : decode cL_wrongAt 0 = .ok (.aload_n 2, 1) := by decide +kernel
theorem dL_wrongAt_1 : decode cL_wrongAt 1 = .ok (.iconst 0, 1) := by decide +kernel
theorem dL_wrongAt_2 : decode cL_wrongAt 2 = .ok (.aload_n 0, 1) := by decide +kernel
theorem dL_wrongAt_3 : decode cL_wrongAt 3 = .ok (.iload_n 1, 1) := by decide +kernel
theorem dL_wrongAt_4 : decode cL_wrongAt 4 = .ok (.invokevirtual 50, 3) := by decide +kernel
theorem dL_wrongAt_7 : decode cL_wrongAt 7 = .ok (.i2l, 1) := by decide +kernel
theorem dL_wrongAt_8 : decode cL_wrongAt 8 = .ok (.lastore, 1) := by decide +kernel
theorem dL_wrongAt_9 : decode cL_wrongAt 9 = .ok (.goto 6, 3) := by decide +kernel
theorem dL_wrongAt_12 : decode cL_wrongAt 12 = .ok (.astore_n 3, 1) := by decide +kernel
theorem dL_wrongAt_13 : decode cL_wrongAt 13 = .ok (.iconst 1, 1) := by decide +kernel
theorem dL_wrongAt_14 : decode cL_wrongAt 14 = .ok (.ireturn, 1) := by decide +kernel
theorem dL_wrongAt_15 : decode cL_wrongAt 15 = .ok (.iconst 0, 1) := by decide +kernel
theorem dL_wrongAt_16 : decode cL_wrongAt 16 = .ok (.ireturn, 1) := by decide +kernel
def wp_L_wrongAt (kd : Nat → Nat) (x1 : Nat) (x2 : Int32) (x3 : Nat) (μ : Mm) (post : Int32 → Mm → Prop) : Prop := (∃ f10, μ x1 = some (.inl (5, f10))) ∧ wp_X6_wrongAt x1 kd x2 μ (fun r1 μ2 => ∃ n3 f4, μ2 x3 = some (eL n3 f4) ∧ vp_in (0 : Int32) n3 ∧ ∀ μ7, μ7 = ups μ2 x3 (eL n3 (vp_updL f4 (0 : Int32).toNatClampNeg r1.toInt64)) → post (0 : Int32) μ7) (fun E9 μ9 => (E9 = "java/lang/IndexOutOfBoundsException" ∧ post (1 : Int32) μ9))
set_option maxHeartbeats 4000000 in
set_option maxRecDepth 100000 in
theorem c_L_wrongAt (l : Launch) (G : gG) (A : Nat → Prop) (hl0 : l.stackTraces = false) (kd : Nat → Nat) (hkd : G.2.2 = kd) (x1 : Nat) (x2 : Int32) (x3 : Nat) (μ : Mm) (post : Int32 → Mm → Prop) (h : wp_L_wrongAt kd x1 x2 x3 μ post) : Met l yL_wrongAt (.codeWith yL_wrongAt cL_wrongAt 4 (some .int) [(0, 9, 12, 21)] :: wsA) (rmL (77) 1 6) (PcG G A μ [.ref x1, .int x2, .ref x3]) (QG G A (pI post)) 1 6 A := by
  refine met_JW (loc := [(0, .ref x1), (1, .int x2), (2, .ref x3)]) (by decide +kernel) (Nat.le_of_ble_eq_true rfl) rfl ?_
  intro p e s m args below meth c X htab
  have X : Cx p l s m args meth c cL_wrongAt 4 (some .int) RL G A := X
  have hw := h
  unfold wp_L_wrongAt at hw
  refine j_aload_n X (pc' := 1) (kk := 2) (i := 2) 2 rfl rfl dL_wrongAt_0 rfl ?_
  refine j_iconst X (pc' := 2) (v := 0) (by decide) dL_wrongAt_1 rfl ?_
  refine j_aload_n X (pc' := 3) (kk := 0) (i := 0) 0 rfl rfl dL_wrongAt_2 rfl ?_
  refine j_iload_n X (pc' := 4) (kk := 1) (i := 1) 1 rfl rfl dL_wrongAt_3 rfl ?_
  obtain ⟨⟨f10, hm9⟩, hw1⟩ := hw
  refine j_tryVi (As := [.int x2]) (rest := [.int ((0 : Int32)), .ref x3]) X (pc' := 7) (cells' := 1) (slots' := 6) htab (c_X6_wrongAt l G A hl0 kd hkd x1 x2 μ _ _ hw1) (gk_X6_wrongAt wt_3_6) hd_X6_wrongAt (rmL_fit (k1 := 76) (k := 77) (by omega) (by decide)) hm9 rfl rfl rfl (Nat.le_of_ble_eq_true rfl) dL_wrongAt_4 rfl ⟨Nat.le_of_ble_eq_true rfl, Nat.le_of_ble_eq_true rfl⟩ rfl rfl (fun E9 μ9 hx => ?_) (fun r1 μ2 hw2 => ?_)
  · obtain ⟨rfl, hwx⟩ := hx
    refine ⟨(List.mem_of_getElem? (i := 2) rfl), [], ⟨0, 9, 12, 21⟩, [], rfl, fun z hz => absurd hz List.not_mem_nil, rfl, by decide, wt_2_119, fun q9 => ?_⟩
    have hw3 := hwx
    refine j_astore_n X (pc' := 13) (kk := 3) (i := 3) (loc' := [(3, .ref q9), (0, .ref x1), (1, .int x2), (2, .ref x3)]) dL_wrongAt_12 rfl rfl (by decide) rfl ?_
    refine j_iconst X (pc' := 14) (v := 1) (by decide) dL_wrongAt_13 rfl ?_
    exact j_iret X ⟨_, rfl, hw3⟩ (Nat.le_of_ble_eq_true rfl) (Nat.le_of_ble_eq_true rfl) dL_wrongAt_14
  · refine j_i2l X (pc' := 8) dL_wrongAt_7 rfl ?_
    obtain ⟨n3, f4, hm5, hi6, hw4⟩ := hw2
    refine jp_last X (pc' := 9) hm5 hi6 dL_wrongAt_8 rfl (fun μ7 e8 => ?_)
    have hw5 := hw4 μ7 e8
    refine j_goto X (tgt := 15) dL_wrongAt_9 (by decide) ?_
    refine j_iconst X (pc' := 16) (v := 0) (by decide) dL_wrongAt_15 rfl ?_
    exact j_iret X ⟨_, rfl, hw5⟩ (Nat.le_of_ble_eq_true rfl) (Nat.le_of_ble_eq_true rfl) dL_wrongAt_16
theorem hd_L_write : yL_write.cls ≠ "java/lang/invoke/MethodHandle" ∧ yL_write.cls ≠ "java/lang/invoke/VarHandle" ∧ (parseMethodDescriptor yL_write.desc).map (fun d => d.parameters.length) = some 3 := ⟨by decide +kernel, by decide +kernel, by decide +kernel⟩
theorem gk_L_write {own : String} {idx : Nat} (h : Cond.methodLink own idx yL_write ∈ wsA) : GoodIn wsA (va_wsS own idx yL_write (.codeWith yL_write cL_write 4 (some .int) [(0, 9, 12, 21), (0, 9, 15, 15)] :: wsA)) := gd_S h wt_3_56 wt_1_0 wt_3_57
/-! BitNotationLaw.write(LBitNotation;I[J)I -/
theorem dL_write_0 : decode cL_write 0 = .ok (.aload_n 2, 1) := by decide +kernel
theorem dL_write_1 : decode cL_write 1 = .ok (.iconst 0, 1) := by decide +kernel
theorem dL_write_2 : decode cL_write 2 = .ok (.aload_n 0, 1) := by decide +kernel
theorem dL_write_3 : decode cL_write 3 = .ok (.iload_n 1, 1) := by decide +kernel
theorem dL_write_4 : decode cL_write 4 = .ok (.invokevirtual 53, 3) := by decide +kernel
theorem dL_write_7 : decode cL_write 7 = .ok (.i2l, 1) := by decide +kernel
theorem dL_write_8 : decode cL_write 8 = .ok (.lastore, 1) := by decide +kernel
theorem dL_write_9 : decode cL_write 9 = .ok (.goto 9, 3) := by decide +kernel
theorem dL_write_12 : decode cL_write 12 = .ok (.astore_n 3, 1) := by decide +kernel
theorem dL_write_13 : decode cL_write 13 = .ok (.iconst 1, 1) := by decide +kernel
theorem dL_write_14 : decode cL_write 14 = .ok (.ireturn, 1) := by decide +kernel
theorem dL_write_15 : decode cL_write 15 = .ok (.astore_n 3, 1) := by decide +kernel
theorem dL_write_16 : decode cL_write 16 = .ok (.iconst 2, 1) := by decide +kernel
theorem dL_write_17 : decode cL_write 17 = .ok (.ireturn, 1) := by decide +kernel
theorem dL_write_18 : decode cL_write 18 = .ok (.iconst 0, 1) := by decide +kernel
theorem dL_write_19 : decode cL_write 19 = .ok (.ireturn, 1) := by decide +kernel
def wp_L_write (kd : Nat → Nat) (x1 : Nat) (x2 : Int32) (x3 : Nat) (μ : Mm) (post : Int32 → Mm → Prop) : Prop := (∃ f10, μ x1 = some (.inl (5, f10))) ∧ wp_X6_write x1 kd x2 μ (fun r1 μ2 => ∃ n3 f4, μ2 x3 = some (eL n3 f4) ∧ vp_in (0 : Int32) n3 ∧ ∀ μ7, μ7 = ups μ2 x3 (eL n3 (vp_updL f4 (0 : Int32).toNatClampNeg r1.toInt64)) → post (0 : Int32) μ7) (fun E9 μ9 => (E9 = "java/lang/IndexOutOfBoundsException" ∧ post (1 : Int32) μ9) ∨ (E9 = "java/lang/IllegalStateException" ∧ post (2 : Int32) μ9))
set_option maxHeartbeats 4000000 in
set_option maxRecDepth 100000 in
theorem c_L_write (l : Launch) (G : gG) (A : Nat → Prop) (hl0 : l.stackTraces = false) (kd : Nat → Nat) (hkd : G.2.2 = kd) (x1 : Nat) (x2 : Int32) (x3 : Nat) (μ : Mm) (post : Int32 → Mm → Prop) (h : wp_L_write kd x1 x2 x3 μ post) : Met l yL_write (.codeWith yL_write cL_write 4 (some .int) [(0, 9, 12, 21), (0, 9, 15, 15)] :: wsA) (rmL (77) 2 12) (PcG G A μ [.ref x1, .int x2, .ref x3]) (QG G A (pI post)) 2 12 A := by
  refine met_JW (loc := [(0, .ref x1), (1, .int x2), (2, .ref x3)]) (by decide +kernel) (Nat.le_of_ble_eq_true rfl) rfl ?_
  intro p e s m args below meth c X htab
  have X : Cx p l s m args meth c cL_write 4 (some .int) RL G A := X
  have hw := h
  unfold wp_L_write at hw
  refine j_aload_n X (pc' := 1) (kk := 2) (i := 2) 2 rfl rfl dL_write_0 rfl ?_
  refine j_iconst X (pc' := 2) (v := 0) (by decide) dL_write_1 rfl ?_
  refine j_aload_n X (pc' := 3) (kk := 0) (i := 0) 0 rfl rfl dL_write_2 rfl ?_
  refine j_iload_n X (pc' := 4) (kk := 1) (i := 1) 1 rfl rfl dL_write_3 rfl ?_
  obtain ⟨⟨f10, hm9⟩, hw1⟩ := hw
  refine j_tryVi (As := [.int x2]) (rest := [.int ((0 : Int32)), .ref x3]) X (pc' := 7) (cells' := 2) (slots' := 12) htab (c_X6_write l G A hl0 kd hkd x1 x2 μ _ _ hw1) (gk_X6_write wt_3_58) hd_X6_write (rmL_fit (k1 := 76) (k := 77) (by omega) (by decide)) hm9 rfl rfl rfl (Nat.le_of_ble_eq_true rfl) dL_write_4 rfl ⟨Nat.le_of_ble_eq_true rfl, Nat.le_of_ble_eq_true rfl⟩ rfl rfl (fun E9 μ9 hx => ?_) (fun r1 μ2 hw2 => ?_)
  · rcases hx with ⟨rfl, hwx⟩ | ⟨rfl, hwx⟩
    · refine ⟨(List.mem_of_getElem? (i := 2) rfl), [], ⟨0, 9, 12, 21⟩, [⟨0, 9, 15, 15⟩], rfl, fun z hz => absurd hz List.not_mem_nil, rfl, by decide, wt_2_119, fun q9 => ?_⟩
      have hw3 := hwx
      refine j_astore_n X (pc' := 13) (kk := 3) (i := 3) (loc' := [(3, .ref q9), (0, .ref x1), (1, .int x2), (2, .ref x3)]) dL_write_12 rfl rfl (by decide) rfl ?_
      refine j_iconst X (pc' := 14) (v := 1) (by decide) dL_write_13 rfl ?_
      exact j_iret X ⟨_, rfl, hw3⟩ (Nat.le_of_ble_eq_true rfl) (Nat.le_of_ble_eq_true rfl) dL_write_14
    · refine ⟨(List.mem_of_getElem? (i := 1) rfl), [⟨0, 9, 12, 21⟩], ⟨0, 9, 15, 15⟩, [], rfl, List.forall_mem_cons.mpr ⟨⟨by decide, "java/lang/IndexOutOfBoundsException", (List.mem_of_getElem? (i := 2) rfl), by decide, wt_2_119⟩, fun z hz => absurd hz List.not_mem_nil⟩, rfl, by decide, wt_1_153, fun q9 => ?_⟩
      have hw4 := hwx
      refine j_astore_n X (pc' := 16) (kk := 3) (i := 3) (loc' := [(3, .ref q9), (0, .ref x1), (1, .int x2), (2, .ref x3)]) dL_write_15 rfl rfl (by decide) rfl ?_
      refine j_iconst X (pc' := 17) (v := 2) (by decide) dL_write_16 rfl ?_
      exact j_iret X ⟨_, rfl, hw4⟩ (Nat.le_of_ble_eq_true rfl) (Nat.le_of_ble_eq_true rfl) dL_write_17
  · refine j_i2l X (pc' := 8) dL_write_7 rfl ?_
    obtain ⟨n3, f4, hm5, hi6, hw5⟩ := hw2
    refine jp_last X (pc' := 9) hm5 hi6 dL_write_8 rfl (fun μ7 e8 => ?_)
    have hw6 := hw5 μ7 e8
    refine j_goto X (tgt := 18) dL_write_9 (by decide) ?_
    refine j_iconst X (pc' := 19) (v := 0) (by decide) dL_write_18 rfl ?_
    exact j_iret X ⟨_, rfl, hw6⟩ (Nat.le_of_ble_eq_true rfl) (Nat.le_of_ble_eq_true rfl) dL_write_19
theorem hd_L_bit : yL_bit.cls ≠ "java/lang/invoke/MethodHandle" ∧ yL_bit.cls ≠ "java/lang/invoke/VarHandle" ∧ (parseMethodDescriptor yL_bit.desc).map (fun d => d.parameters.length) = some 3 := ⟨by decide +kernel, by decide +kernel, by decide +kernel⟩
theorem gk_L_bit {own : String} {idx : Nat} (h : Cond.methodLink own idx yL_bit ∈ wsA) : GoodIn wsA (va_wsS own idx yL_bit (.codeWith yL_bit cL_bit 4 (some .int) [(0, 9, 12, 21)] :: wsA)) := gd_S h wt_3_72 wt_1_0 wt_3_73
/-! BitNotationLaw.bit(LBitNotation;I[J)I -/
theorem dL_bit_0 : decode cL_bit 0 = .ok (.aload_n 2, 1) := by decide +kernel
theorem dL_bit_1 : decode cL_bit 1 = .ok (.iconst 0, 1) := by decide +kernel
theorem dL_bit_2 : decode cL_bit 2 = .ok (.aload_n 0, 1) := by decide +kernel
theorem dL_bit_3 : decode cL_bit 3 = .ok (.iload_n 1, 1) := by decide +kernel
theorem dL_bit_4 : decode cL_bit 4 = .ok (.invokevirtual 56, 3) := by decide +kernel
theorem dL_bit_7 : decode cL_bit 7 = .ok (.i2l, 1) := by decide +kernel
theorem dL_bit_8 : decode cL_bit 8 = .ok (.lastore, 1) := by decide +kernel
theorem dL_bit_9 : decode cL_bit 9 = .ok (.goto 6, 3) := by decide +kernel
theorem dL_bit_12 : decode cL_bit 12 = .ok (.astore_n 3, 1) := by decide +kernel
theorem dL_bit_13 : decode cL_bit 13 = .ok (.iconst 1, 1) := by decide +kernel
theorem dL_bit_14 : decode cL_bit 14 = .ok (.ireturn, 1) := by decide +kernel
theorem dL_bit_15 : decode cL_bit 15 = .ok (.iconst 0, 1) := by decide +kernel
theorem dL_bit_16 : decode cL_bit 16 = .ok (.ireturn, 1) := by decide +kernel
def wp_L_bit (x1 : Nat) (x2 : Int32) (x3 : Nat) (μ : Mm) (post : Int32 → Mm → Prop) : Prop := (∃ f10, μ x1 = some (.inl (5, f10))) ∧ wp_X6_bit x1 x2 μ (fun r1 μ2 => ∃ n3 f4, μ2 x3 = some (eL n3 f4) ∧ vp_in (0 : Int32) n3 ∧ ∀ μ7, μ7 = ups μ2 x3 (eL n3 (vp_updL f4 (0 : Int32).toNatClampNeg r1.toInt64)) → post (0 : Int32) μ7) (fun E9 μ9 => (E9 = "java/lang/IndexOutOfBoundsException" ∧ post (1 : Int32) μ9))
set_option maxHeartbeats 4000000 in
set_option maxRecDepth 100000 in
theorem c_L_bit (l : Launch) (G : gG) (A : Nat → Prop) (hl0 : l.stackTraces = false) (x1 : Nat) (x2 : Int32) (x3 : Nat) (μ : Mm) (post : Int32 → Mm → Prop) (h : wp_L_bit x1 x2 x3 μ post) : Met l yL_bit (.codeWith yL_bit cL_bit 4 (some .int) [(0, 9, 12, 21)] :: wsA) (rmL (2) 1 6) (PcG G A μ [.ref x1, .int x2, .ref x3]) (QG G A (pI post)) 1 6 A := by
  refine met_JW (loc := [(0, .ref x1), (1, .int x2), (2, .ref x3)]) (by decide +kernel) (Nat.le_of_ble_eq_true rfl) rfl ?_
  intro p e s m args below meth c X htab
  have X : Cx p l s m args meth c cL_bit 4 (some .int) RL G A := X
  have hw := h
  unfold wp_L_bit at hw
  refine j_aload_n X (pc' := 1) (kk := 2) (i := 2) 2 rfl rfl dL_bit_0 rfl ?_
  refine j_iconst X (pc' := 2) (v := 0) (by decide) dL_bit_1 rfl ?_
  refine j_aload_n X (pc' := 3) (kk := 0) (i := 0) 0 rfl rfl dL_bit_2 rfl ?_
  refine j_iload_n X (pc' := 4) (kk := 1) (i := 1) 1 rfl rfl dL_bit_3 rfl ?_
  obtain ⟨⟨f10, hm9⟩, hw1⟩ := hw
  refine j_tryVi (As := [.int x2]) (rest := [.int ((0 : Int32)), .ref x3]) X (pc' := 7) (cells' := 1) (slots' := 6) htab (c_X6_bit l G A hl0 x1 x2 μ _ _ hw1) (gk_X6_bit wt_3_74) hd_X6_bit (rmL_fit (k1 := 1) (k := 2) (by omega) (by decide)) hm9 rfl rfl rfl (Nat.le_of_ble_eq_true rfl) dL_bit_4 rfl ⟨Nat.le_of_ble_eq_true rfl, Nat.le_of_ble_eq_true rfl⟩ rfl rfl (fun E9 μ9 hx => ?_) (fun r1 μ2 hw2 => ?_)
  · obtain ⟨rfl, hwx⟩ := hx
    refine ⟨(List.mem_of_getElem? (i := 2) rfl), [], ⟨0, 9, 12, 21⟩, [], rfl, fun z hz => absurd hz List.not_mem_nil, rfl, by decide, wt_2_119, fun q9 => ?_⟩
    have hw3 := hwx
    refine j_astore_n X (pc' := 13) (kk := 3) (i := 3) (loc' := [(3, .ref q9), (0, .ref x1), (1, .int x2), (2, .ref x3)]) dL_bit_12 rfl rfl (by decide) rfl ?_
    refine j_iconst X (pc' := 14) (v := 1) (by decide) dL_bit_13 rfl ?_
    exact j_iret X ⟨_, rfl, hw3⟩ (Nat.le_of_ble_eq_true rfl) (Nat.le_of_ble_eq_true rfl) dL_bit_14
  · refine j_i2l X (pc' := 8) dL_bit_7 rfl ?_
    obtain ⟨n3, f4, hm5, hi6, hw4⟩ := hw2
    refine jp_last X (pc' := 9) hm5 hi6 dL_bit_8 rfl (fun μ7 e8 => ?_)
    have hw5 := hw4 μ7 e8
    refine j_goto X (tgt := 15) dL_bit_9 (by decide) ?_
    refine j_iconst X (pc' := 16) (v := 0) (by decide) dL_bit_15 rfl ?_
    exact j_iret X ⟨_, rfl, hw5⟩ (Nat.le_of_ble_eq_true rfl) (Nat.le_of_ble_eq_true rfl) dL_bit_16
theorem hd_L_flip : yL_flip.cls ≠ "java/lang/invoke/MethodHandle" ∧ yL_flip.cls ≠ "java/lang/invoke/VarHandle" ∧ (parseMethodDescriptor yL_flip.desc).map (fun d => d.parameters.length) = some 3 := ⟨by decide +kernel, by decide +kernel, by decide +kernel⟩
theorem gk_L_flip {own : String} {idx : Nat} (h : Cond.methodLink own idx yL_flip ∈ wsA) : GoodIn wsA (va_wsS own idx yL_flip (.codeWith yL_flip cL_flip 4 (some .int) [(0, 9, 12, 21)] :: wsA)) := gd_S h wt_3_80 wt_1_0 wt_3_81
/-! BitNotationLaw.flip(LBitNotation;I[J)I -/
theorem dL_flip_0 : decode cL_flip 0 = .ok (.aload_n 2, 1) := by decide +kernel
theorem dL_flip_1 : decode cL_flip 1 = .ok (.iconst 0, 1) := by decide +kernel
theorem dL_flip_2 : decode cL_flip 2 = .ok (.aload_n 0, 1) := by decide +kernel
theorem dL_flip_3 : decode cL_flip 3 = .ok (.iload_n 1, 1) := by decide +kernel
theorem dL_flip_4 : decode cL_flip 4 = .ok (.invokevirtual 59, 3) := by decide +kernel
theorem dL_flip_7 : decode cL_flip 7 = .ok (.i2l, 1) := by decide +kernel
theorem dL_flip_8 : decode cL_flip 8 = .ok (.lastore, 1) := by decide +kernel
theorem dL_flip_9 : decode cL_flip 9 = .ok (.goto 6, 3) := by decide +kernel
theorem dL_flip_12 : decode cL_flip 12 = .ok (.astore_n 3, 1) := by decide +kernel
theorem dL_flip_13 : decode cL_flip 13 = .ok (.iconst 1, 1) := by decide +kernel
theorem dL_flip_14 : decode cL_flip 14 = .ok (.ireturn, 1) := by decide +kernel
theorem dL_flip_15 : decode cL_flip 15 = .ok (.iconst 0, 1) := by decide +kernel
theorem dL_flip_16 : decode cL_flip 16 = .ok (.ireturn, 1) := by decide +kernel
def wp_L_flip (x1 : Nat) (x2 : Int32) (x3 : Nat) (μ : Mm) (post : Int32 → Mm → Prop) : Prop := (∃ f10, μ x1 = some (.inl (5, f10))) ∧ wp_X6_flip x1 x2 μ (fun r1 μ2 => ∃ n3 f4, μ2 x3 = some (eL n3 f4) ∧ vp_in (0 : Int32) n3 ∧ ∀ μ7, μ7 = ups μ2 x3 (eL n3 (vp_updL f4 (0 : Int32).toNatClampNeg r1.toInt64)) → post (0 : Int32) μ7) (fun E9 μ9 => (E9 = "java/lang/IndexOutOfBoundsException" ∧ post (1 : Int32) μ9))
set_option maxHeartbeats 4000000 in
set_option maxRecDepth 100000 in
theorem c_L_flip (l : Launch) (G : gG) (A : Nat → Prop) (hl0 : l.stackTraces = false) (x1 : Nat) (x2 : Int32) (x3 : Nat) (μ : Mm) (post : Int32 → Mm → Prop) (h : wp_L_flip x1 x2 x3 μ post) : Met l yL_flip (.codeWith yL_flip cL_flip 4 (some .int) [(0, 9, 12, 21)] :: wsA) (rmL (3) 1 6) (PcG G A μ [.ref x1, .int x2, .ref x3]) (QG G A (pI post)) 1 6 A := by
  refine met_JW (loc := [(0, .ref x1), (1, .int x2), (2, .ref x3)]) (by decide +kernel) (Nat.le_of_ble_eq_true rfl) rfl ?_
  intro p e s m args below meth c X htab
  have X : Cx p l s m args meth c cL_flip 4 (some .int) RL G A := X
  have hw := h
  unfold wp_L_flip at hw
  refine j_aload_n X (pc' := 1) (kk := 2) (i := 2) 2 rfl rfl dL_flip_0 rfl ?_
  refine j_iconst X (pc' := 2) (v := 0) (by decide) dL_flip_1 rfl ?_
  refine j_aload_n X (pc' := 3) (kk := 0) (i := 0) 0 rfl rfl dL_flip_2 rfl ?_
  refine j_iload_n X (pc' := 4) (kk := 1) (i := 1) 1 rfl rfl dL_flip_3 rfl ?_
  obtain ⟨⟨f10, hm9⟩, hw1⟩ := hw
  refine j_tryVi (As := [.int x2]) (rest := [.int ((0 : Int32)), .ref x3]) X (pc' := 7) (cells' := 1) (slots' := 6) htab (c_X6_flip l G A hl0 x1 x2 μ _ _ hw1) (gk_X6_flip wt_3_82) hd_X6_flip (rmL_fit (k1 := 2) (k := 3) (by omega) (by decide)) hm9 rfl rfl rfl (Nat.le_of_ble_eq_true rfl) dL_flip_4 rfl ⟨Nat.le_of_ble_eq_true rfl, Nat.le_of_ble_eq_true rfl⟩ rfl rfl (fun E9 μ9 hx => ?_) (fun r1 μ2 hw2 => ?_)
  · obtain ⟨rfl, hwx⟩ := hx
    refine ⟨(List.mem_of_getElem? (i := 2) rfl), [], ⟨0, 9, 12, 21⟩, [], rfl, fun z hz => absurd hz List.not_mem_nil, rfl, by decide, wt_2_119, fun q9 => ?_⟩
    have hw3 := hwx
    refine j_astore_n X (pc' := 13) (kk := 3) (i := 3) (loc' := [(3, .ref q9), (0, .ref x1), (1, .int x2), (2, .ref x3)]) dL_flip_12 rfl rfl (by decide) rfl ?_
    refine j_iconst X (pc' := 14) (v := 1) (by decide) dL_flip_13 rfl ?_
    exact j_iret X ⟨_, rfl, hw3⟩ (Nat.le_of_ble_eq_true rfl) (Nat.le_of_ble_eq_true rfl) dL_flip_14
  · refine j_i2l X (pc' := 8) dL_flip_7 rfl ?_
    obtain ⟨n3, f4, hm5, hi6, hw4⟩ := hw2
    refine jp_last X (pc' := 9) hm5 hi6 dL_flip_8 rfl (fun μ7 e8 => ?_)
    have hw5 := hw4 μ7 e8
    refine j_goto X (tgt := 15) dL_flip_9 (by decide) ?_
    refine j_iconst X (pc' := 16) (v := 0) (by decide) dL_flip_15 rfl ?_
    exact j_iret X ⟨_, rfl, hw5⟩ (Nat.le_of_ble_eq_true rfl) (Nat.le_of_ble_eq_true rfl) dL_flip_16
theorem hd_L_cut : yL_cut.cls ≠ "java/lang/invoke/MethodHandle" ∧ yL_cut.cls ≠ "java/lang/invoke/VarHandle" ∧ (parseMethodDescriptor yL_cut.desc).map (fun d => d.parameters.length) = some 3 := ⟨by decide +kernel, by decide +kernel, by decide +kernel⟩
theorem gk_L_cut {own : String} {idx : Nat} (h : Cond.methodLink own idx yL_cut ∈ wsA) : GoodIn wsA (va_wsS own idx yL_cut (.codeWith yL_cut cL_cut 4 (some .int) [(0, 9, 12, 13)] :: wsA)) := gd_S h wt_3_88 wt_1_0 wt_3_89
/-! BitNotationLaw.cut(LBitNotation;I[J)I -/
theorem dL_cut_0 : decode cL_cut 0 = .ok (.aload_n 2, 1) := by decide +kernel
theorem dL_cut_1 : decode cL_cut 1 = .ok (.iconst 0, 1) := by decide +kernel
theorem dL_cut_2 : decode cL_cut 2 = .ok (.aload_n 0, 1) := by decide +kernel
theorem dL_cut_3 : decode cL_cut 3 = .ok (.iload_n 1, 1) := by decide +kernel
theorem dL_cut_4 : decode cL_cut 4 = .ok (.invokevirtual 62, 3) := by decide +kernel
theorem dL_cut_7 : decode cL_cut 7 = .ok (.i2l, 1) := by decide +kernel
theorem dL_cut_8 : decode cL_cut 8 = .ok (.lastore, 1) := by decide +kernel
theorem dL_cut_9 : decode cL_cut 9 = .ok (.goto 6, 3) := by decide +kernel
theorem dL_cut_12 : decode cL_cut 12 = .ok (.astore_n 3, 1) := by decide +kernel
theorem dL_cut_13 : decode cL_cut 13 = .ok (.iconst 1, 1) := by decide +kernel
theorem dL_cut_14 : decode cL_cut 14 = .ok (.ireturn, 1) := by decide +kernel
theorem dL_cut_15 : decode cL_cut 15 = .ok (.iconst 0, 1) := by decide +kernel
theorem dL_cut_16 : decode cL_cut 16 = .ok (.ireturn, 1) := by decide +kernel
def wp_L_cut (x1 : Nat) (x2 : Int32) (x3 : Nat) (μ : Mm) (post : Int32 → Mm → Prop) : Prop := (∃ f10, μ x1 = some (.inl (5, f10))) ∧ wp_X6_cut x1 x2 μ (fun r1 μ2 => ∃ n3 f4, μ2 x3 = some (eL n3 f4) ∧ vp_in (0 : Int32) n3 ∧ ∀ μ7, μ7 = ups μ2 x3 (eL n3 (vp_updL f4 (0 : Int32).toNatClampNeg r1.toInt64)) → post (0 : Int32) μ7) (fun E9 μ9 => (E9 = "java/lang/IllegalArgumentException" ∧ post (1 : Int32) μ9))
set_option maxHeartbeats 4000000 in
set_option maxRecDepth 100000 in
theorem c_L_cut (l : Launch) (G : gG) (A : Nat → Prop) (hl0 : l.stackTraces = false) (x1 : Nat) (x2 : Int32) (x3 : Nat) (μ : Mm) (post : Int32 → Mm → Prop) (h : wp_L_cut x1 x2 x3 μ post) : Met l yL_cut (.codeWith yL_cut cL_cut 4 (some .int) [(0, 9, 12, 13)] :: wsA) (rmL (2) 1 6) (PcG G A μ [.ref x1, .int x2, .ref x3]) (QG G A (pI post)) 1 6 A := by
  refine met_JW (loc := [(0, .ref x1), (1, .int x2), (2, .ref x3)]) (by decide +kernel) (Nat.le_of_ble_eq_true rfl) rfl ?_
  intro p e s m args below meth c X htab
  have X : Cx p l s m args meth c cL_cut 4 (some .int) RL G A := X
  have hw := h
  unfold wp_L_cut at hw
  refine j_aload_n X (pc' := 1) (kk := 2) (i := 2) 2 rfl rfl dL_cut_0 rfl ?_
  refine j_iconst X (pc' := 2) (v := 0) (by decide) dL_cut_1 rfl ?_
  refine j_aload_n X (pc' := 3) (kk := 0) (i := 0) 0 rfl rfl dL_cut_2 rfl ?_
  refine j_iload_n X (pc' := 4) (kk := 1) (i := 1) 1 rfl rfl dL_cut_3 rfl ?_
  obtain ⟨⟨f10, hm9⟩, hw1⟩ := hw
  refine j_tryVi (As := [.int x2]) (rest := [.int ((0 : Int32)), .ref x3]) X (pc' := 7) (cells' := 1) (slots' := 6) htab (c_X6_cut l G A hl0 x1 x2 μ _ _ hw1) (gk_X6_cut wt_3_90) hd_X6_cut (rmL_fit (k1 := 1) (k := 2) (by omega) (by decide)) hm9 rfl rfl rfl (Nat.le_of_ble_eq_true rfl) dL_cut_4 rfl ⟨Nat.le_of_ble_eq_true rfl, Nat.le_of_ble_eq_true rfl⟩ rfl rfl (fun E9 μ9 hx => ?_) (fun r1 μ2 hw2 => ?_)
  · obtain ⟨rfl, hwx⟩ := hx
    refine ⟨(List.mem_of_getElem? (i := 0) rfl), [], ⟨0, 9, 12, 13⟩, [], rfl, fun z hz => absurd hz List.not_mem_nil, rfl, by decide, wt_1_152, fun q9 => ?_⟩
    have hw3 := hwx
    refine j_astore_n X (pc' := 13) (kk := 3) (i := 3) (loc' := [(3, .ref q9), (0, .ref x1), (1, .int x2), (2, .ref x3)]) dL_cut_12 rfl rfl (by decide) rfl ?_
    refine j_iconst X (pc' := 14) (v := 1) (by decide) dL_cut_13 rfl ?_
    exact j_iret X ⟨_, rfl, hw3⟩ (Nat.le_of_ble_eq_true rfl) (Nat.le_of_ble_eq_true rfl) dL_cut_14
  · refine j_i2l X (pc' := 8) dL_cut_7 rfl ?_
    obtain ⟨n3, f4, hm5, hi6, hw4⟩ := hw2
    refine jp_last X (pc' := 9) hm5 hi6 dL_cut_8 rfl (fun μ7 e8 => ?_)
    have hw5 := hw4 μ7 e8
    refine j_goto X (tgt := 15) dL_cut_9 (by decide) ?_
    refine j_iconst X (pc' := 16) (v := 0) (by decide) dL_cut_15 rfl ?_
    exact j_iret X ⟨_, rfl, hw5⟩ (Nat.le_of_ble_eq_true rfl) (Nat.le_of_ble_eq_true rfl) dL_cut_16
theorem hd_L_read : yL_read.cls ≠ "java/lang/invoke/MethodHandle" ∧ yL_read.cls ≠ "java/lang/invoke/VarHandle" ∧ (parseMethodDescriptor yL_read.desc).map (fun d => d.parameters.length) = some 4 := ⟨by decide +kernel, by decide +kernel, by decide +kernel⟩
theorem gk_L_read {own : String} {idx : Nat} (h : Cond.methodLink own idx yL_read ∈ wsA) : GoodIn wsA (va_wsS own idx yL_read (.codeWith yL_read cL_read 5 (some .int) [(0, 10, 13, 21), (0, 10, 17, 13), (0, 10, 21, 15)] :: wsA)) := gd_S h wt_3_96 wt_1_0 wt_3_97
/-! BitNotationLaw.read(LBitNotation;II[J)I -/
theorem dL_read_0 : decode cL_read 0 = .ok (.aload_n 3, 1) := by decide +kernel
theorem dL_read_1 : decode cL_read 1 = .ok (.iconst 0, 1) := by decide +kernel
theorem dL_read_2 : decode cL_read 2 = .ok (.aload_n 0, 1) := by decide +kernel
theorem dL_read_3 : decode cL_read 3 = .ok (.iload_n 1, 1) := by decide +kernel
theorem dL_read_4 : decode cL_read 4 = .ok (.iload_n 2, 1) := by decide +kernel
theorem dL_read_5 : decode cL_read 5 = .ok (.invokevirtual 65, 3) := by decide +kernel
theorem dL_read_8 : decode cL_read 8 = .ok (.i2l, 1) := by decide +kernel
theorem dL_read_9 : decode cL_read 9 = .ok (.lastore, 1) := by decide +kernel
theorem dL_read_10 : decode cL_read 10 = .ok (.goto 15, 3) := by decide +kernel
theorem dL_read_13 : decode cL_read 13 = .ok (.astore 4, 2) := by decide +kernel
theorem dL_read_15 : decode cL_read 15 = .ok (.iconst 1, 1) := by decide +kernel
theorem dL_read_16 : decode cL_read 16 = .ok (.ireturn, 1) := by decide +kernel
theorem dL_read_17 : decode cL_read 17 = .ok (.astore 4, 2) := by decide +kernel
theorem dL_read_19 : decode cL_read 19 = .ok (.iconst 2, 1) := by decide +kernel
theorem dL_read_20 : decode cL_read 20 = .ok (.ireturn, 1) := by decide +kernel
theorem dL_read_21 : decode cL_read 21 = .ok (.astore 4, 2) := by decide +kernel
theorem dL_read_23 : decode cL_read 23 = .ok (.iconst 3, 1) := by decide +kernel
theorem dL_read_24 : decode cL_read 24 = .ok (.ireturn, 1) := by decide +kernel
theorem dL_read_25 : decode cL_read 25 = .ok (.iconst 0, 1) := by decide +kernel
theorem dL_read_26 : decode cL_read 26 = .ok (.ireturn, 1) := by decide +kernel
def wp_L_read (kd : Nat → Nat) (x1 : Nat) (x2 : Int32) (x3 : Int32) (x4 : Nat) (μ : Mm) (post : Int32 → Mm → Prop) : Prop := (∃ f10, μ x1 = some (.inl (5, f10))) ∧ wp_X6_read x1 kd x2 x3 μ (fun r1 μ2 => ∃ n3 f4, μ2 x4 = some (eL n3 f4) ∧ vp_in (0 : Int32) n3 ∧ ∀ μ7, μ7 = ups μ2 x4 (eL n3 (vp_updL f4 (0 : Int32).toNatClampNeg r1.toInt64)) → post (0 : Int32) μ7) (fun E9 μ9 => (E9 = "java/lang/IndexOutOfBoundsException" ∧ post (1 : Int32) μ9) ∨ (E9 = "java/lang/IllegalArgumentException" ∧ post (2 : Int32) μ9) ∨ (E9 = "java/lang/IllegalStateException" ∧ post (3 : Int32) μ9))
set_option maxHeartbeats 4000000 in
set_option maxRecDepth 100000 in
theorem c_L_read (l : Launch) (G : gG) (A : Nat → Prop) (hl0 : l.stackTraces = false) (kd : Nat → Nat) (hkd : G.2.2 = kd) (x1 : Nat) (x2 : Int32) (x3 : Int32) (x4 : Nat) (μ : Mm) (post : Int32 → Mm → Prop) (h : wp_L_read kd x1 x2 x3 x4 μ post) : Met l yL_read (.codeWith yL_read cL_read 5 (some .int) [(0, 10, 13, 21), (0, 10, 17, 13), (0, 10, 21, 15)] :: wsA) (rmL (78) 3 18) (PcG G A μ [.ref x1, .int x2, .int x3, .ref x4]) (QG G A (pI post)) 3 18 A := by
  refine met_JW (loc := [(0, .ref x1), (1, .int x2), (2, .int x3), (3, .ref x4)]) (by decide +kernel) (Nat.le_of_ble_eq_true rfl) rfl ?_
  intro p e s m args below meth c X htab
  have X : Cx p l s m args meth c cL_read 5 (some .int) RL G A := X
  have hw := h
  unfold wp_L_read at hw
  refine j_aload_n X (pc' := 1) (kk := 3) (i := 3) 3 rfl rfl dL_read_0 rfl ?_
  refine j_iconst X (pc' := 2) (v := 0) (by decide) dL_read_1 rfl ?_
  refine j_aload_n X (pc' := 3) (kk := 0) (i := 0) 0 rfl rfl dL_read_2 rfl ?_
  refine j_iload_n X (pc' := 4) (kk := 1) (i := 1) 1 rfl rfl dL_read_3 rfl ?_
  refine j_iload_n X (pc' := 5) (kk := 2) (i := 2) 2 rfl rfl dL_read_4 rfl ?_
  obtain ⟨⟨f10, hm9⟩, hw1⟩ := hw
  refine j_tryVi (As := [.int x2, .int x3]) (rest := [.int ((0 : Int32)), .ref x4]) X (pc' := 8) (cells' := 3) (slots' := 18) htab (c_X6_read l G A hl0 kd hkd x1 x2 x3 μ _ _ hw1) (gk_X6_read wt_3_98) hd_X6_read (rmL_fit (k1 := 77) (k := 78) (by omega) (by decide)) hm9 rfl rfl rfl (Nat.le_of_ble_eq_true rfl) dL_read_5 rfl ⟨Nat.le_of_ble_eq_true rfl, Nat.le_of_ble_eq_true rfl⟩ rfl rfl (fun E9 μ9 hx => ?_) (fun r1 μ2 hw2 => ?_)
  · rcases hx with ⟨rfl, hwx⟩ | ⟨rfl, hwx⟩ | ⟨rfl, hwx⟩
    · refine ⟨(List.mem_of_getElem? (i := 2) rfl), [], ⟨0, 10, 13, 21⟩, [⟨0, 10, 17, 13⟩, ⟨0, 10, 21, 15⟩], rfl, fun z hz => absurd hz List.not_mem_nil, rfl, by decide, wt_2_119, fun q9 => ?_⟩
      have hw3 := hwx
      refine j_astore X (pc' := 15) (i := 4) (loc' := [(4, .ref q9), (0, .ref x1), (1, .int x2), (2, .int x3), (3, .ref x4)]) dL_read_13 rfl (by decide) rfl ?_
      refine j_iconst X (pc' := 16) (v := 1) (by decide) dL_read_15 rfl ?_
      exact j_iret X ⟨_, rfl, hw3⟩ (Nat.le_of_ble_eq_true rfl) (Nat.le_of_ble_eq_true rfl) dL_read_16
    · refine ⟨(List.mem_of_getElem? (i := 0) rfl), [⟨0, 10, 13, 21⟩], ⟨0, 10, 17, 13⟩, [⟨0, 10, 21, 15⟩], rfl, List.forall_mem_cons.mpr ⟨⟨by decide, "java/lang/IndexOutOfBoundsException", (List.mem_of_getElem? (i := 2) rfl), by decide, wt_2_119⟩, fun z hz => absurd hz List.not_mem_nil⟩, rfl, by decide, wt_1_152, fun q9 => ?_⟩
      have hw4 := hwx
      refine j_astore X (pc' := 19) (i := 4) (loc' := [(4, .ref q9), (0, .ref x1), (1, .int x2), (2, .int x3), (3, .ref x4)]) dL_read_17 rfl (by decide) rfl ?_
      refine j_iconst X (pc' := 20) (v := 2) (by decide) dL_read_19 rfl ?_
      exact j_iret X ⟨_, rfl, hw4⟩ (Nat.le_of_ble_eq_true rfl) (Nat.le_of_ble_eq_true rfl) dL_read_20
    · refine ⟨(List.mem_of_getElem? (i := 1) rfl), [⟨0, 10, 13, 21⟩, ⟨0, 10, 17, 13⟩], ⟨0, 10, 21, 15⟩, [], rfl, List.forall_mem_cons.mpr ⟨⟨by decide, "java/lang/IndexOutOfBoundsException", (List.mem_of_getElem? (i := 2) rfl), by decide, wt_2_119⟩, List.forall_mem_cons.mpr ⟨⟨by decide, "java/lang/IllegalArgumentException", (List.mem_of_getElem? (i := 0) rfl), by decide, wt_1_152⟩, fun z hz => absurd hz List.not_mem_nil⟩⟩, rfl, by decide, wt_1_153, fun q9 => ?_⟩
      have hw5 := hwx
      refine j_astore X (pc' := 23) (i := 4) (loc' := [(4, .ref q9), (0, .ref x1), (1, .int x2), (2, .int x3), (3, .ref x4)]) dL_read_21 rfl (by decide) rfl ?_
      refine j_iconst X (pc' := 24) (v := 3) (by decide) dL_read_23 rfl ?_
      exact j_iret X ⟨_, rfl, hw5⟩ (Nat.le_of_ble_eq_true rfl) (Nat.le_of_ble_eq_true rfl) dL_read_24
  · refine j_i2l X (pc' := 9) dL_read_8 rfl ?_
    obtain ⟨n3, f4, hm5, hi6, hw6⟩ := hw2
    refine jp_last X (pc' := 10) hm5 hi6 dL_read_9 rfl (fun μ7 e8 => ?_)
    have hw7 := hw6 μ7 e8
    refine j_goto X (tgt := 25) dL_read_10 (by decide) ?_
    refine j_iconst X (pc' := 26) (v := 0) (by decide) dL_read_25 rfl ?_
    exact j_iret X ⟨_, rfl, hw7⟩ (Nat.le_of_ble_eq_true rfl) (Nat.le_of_ble_eq_true rfl) dL_read_26
theorem hd_L_faultAt : yL_faultAt.cls ≠ "java/lang/invoke/MethodHandle" ∧ yL_faultAt.cls ≠ "java/lang/invoke/VarHandle" ∧ (parseMethodDescriptor yL_faultAt.desc).map (fun d => d.parameters.length) = some 4 := ⟨by decide +kernel, by decide +kernel, by decide +kernel⟩
theorem gk_L_faultAt {own : String} {idx : Nat} (h : Cond.methodLink own idx yL_faultAt ∈ wsA) : GoodIn wsA (va_wsS own idx yL_faultAt (.codeWith yL_faultAt cL_faultAt 5 (some .int) [(0, 10, 13, 21), (0, 10, 17, 13)] :: wsA)) := gd_S h wt_3_153 wt_1_0 wt_3_154
/-! BitNotationLaw.faultAt(LBitNotation;II[J)I -/
theorem dL_faultAt_0 : decode cL_faultAt 0 = .ok (.aload_n 3, 1) := by decide +kernel
theorem dL_faultAt_1 : decode cL_faultAt 1 = .ok (.iconst 0, 1) := by decide +kernel
theorem dL_faultAt_2 : decode cL_faultAt 2 = .ok (.aload_n 0, 1) := by decide +kernel
theorem dL_faultAt_3 : decode cL_faultAt 3 = .ok (.iload_n 1, 1) := by decide +kernel
theorem dL_faultAt_4 : decode cL_faultAt 4 = .ok (.iload_n 2, 1) := by decide +kernel
theorem dL_faultAt_5 : decode cL_faultAt 5 = .ok (.invokevirtual 68, 3) := by decide +kernel
theorem dL_faultAt_8 : decode cL_faultAt 8 = .ok (.i2l, 1) := by decide +kernel
theorem dL_faultAt_9 : decode cL_faultAt 9 = .ok (.lastore, 1) := by decide +kernel
theorem dL_faultAt_10 : decode cL_faultAt 10 = .ok (.goto 11, 3) := by decide +kernel
theorem dL_faultAt_13 : decode cL_faultAt 13 = .ok (.astore 4, 2) := by decide +kernel
theorem dL_faultAt_15 : decode cL_faultAt 15 = .ok (.iconst 1, 1) := by decide +kernel
theorem dL_faultAt_16 : decode cL_faultAt 16 = .ok (.ireturn, 1) := by decide +kernel
theorem dL_faultAt_17 : decode cL_faultAt 17 = .ok (.astore 4, 2) := by decide +kernel
theorem dL_faultAt_19 : decode cL_faultAt 19 = .ok (.iconst 2, 1) := by decide +kernel
theorem dL_faultAt_20 : decode cL_faultAt 20 = .ok (.ireturn, 1) := by decide +kernel
theorem dL_faultAt_21 : decode cL_faultAt 21 = .ok (.iconst 0, 1) := by decide +kernel
theorem dL_faultAt_22 : decode cL_faultAt 22 = .ok (.ireturn, 1) := by decide +kernel
def wp_L_faultAt (kd : Nat → Nat) (x1 : Nat) (x2 : Int32) (x3 : Int32) (x4 : Nat) (μ : Mm) (post : Int32 → Mm → Prop) : Prop := (∃ f10, μ x1 = some (.inl (5, f10))) ∧ wp_X6_faultAt x1 kd x2 x3 μ (fun r1 μ2 => ∃ n3 f4, μ2 x4 = some (eL n3 f4) ∧ vp_in (0 : Int32) n3 ∧ ∀ μ7, μ7 = ups μ2 x4 (eL n3 (vp_updL f4 (0 : Int32).toNatClampNeg r1.toInt64)) → post (0 : Int32) μ7) (fun E9 μ9 => (E9 = "java/lang/IndexOutOfBoundsException" ∧ post (1 : Int32) μ9) ∨ (E9 = "java/lang/IllegalArgumentException" ∧ post (2 : Int32) μ9))
set_option maxHeartbeats 4000000 in
set_option maxRecDepth 100000 in
theorem c_L_faultAt (l : Launch) (G : gG) (A : Nat → Prop) (hl0 : l.stackTraces = false) (kd : Nat → Nat) (hkd : G.2.2 = kd) (x1 : Nat) (x2 : Int32) (x3 : Int32) (x4 : Nat) (μ : Mm) (post : Int32 → Mm → Prop) (h : wp_L_faultAt kd x1 x2 x3 x4 μ post) : Met l yL_faultAt (.codeWith yL_faultAt cL_faultAt 5 (some .int) [(0, 10, 13, 21), (0, 10, 17, 13)] :: wsA) (rmL (78) 2 12) (PcG G A μ [.ref x1, .int x2, .int x3, .ref x4]) (QG G A (pI post)) 2 12 A := by
  refine met_JW (loc := [(0, .ref x1), (1, .int x2), (2, .int x3), (3, .ref x4)]) (by decide +kernel) (Nat.le_of_ble_eq_true rfl) rfl ?_
  intro p e s m args below meth c X htab
  have X : Cx p l s m args meth c cL_faultAt 5 (some .int) RL G A := X
  have hw := h
  unfold wp_L_faultAt at hw
  refine j_aload_n X (pc' := 1) (kk := 3) (i := 3) 3 rfl rfl dL_faultAt_0 rfl ?_
  refine j_iconst X (pc' := 2) (v := 0) (by decide) dL_faultAt_1 rfl ?_
  refine j_aload_n X (pc' := 3) (kk := 0) (i := 0) 0 rfl rfl dL_faultAt_2 rfl ?_
  refine j_iload_n X (pc' := 4) (kk := 1) (i := 1) 1 rfl rfl dL_faultAt_3 rfl ?_
  refine j_iload_n X (pc' := 5) (kk := 2) (i := 2) 2 rfl rfl dL_faultAt_4 rfl ?_
  obtain ⟨⟨f10, hm9⟩, hw1⟩ := hw
  refine j_tryVi (As := [.int x2, .int x3]) (rest := [.int ((0 : Int32)), .ref x4]) X (pc' := 8) (cells' := 2) (slots' := 12) htab (c_X6_faultAt l G A hl0 kd hkd x1 x2 x3 μ _ _ hw1) (gk_X6_faultAt wt_3_155) hd_X6_faultAt (rmL_fit (k1 := 77) (k := 78) (by omega) (by decide)) hm9 rfl rfl rfl (Nat.le_of_ble_eq_true rfl) dL_faultAt_5 rfl ⟨Nat.le_of_ble_eq_true rfl, Nat.le_of_ble_eq_true rfl⟩ rfl rfl (fun E9 μ9 hx => ?_) (fun r1 μ2 hw2 => ?_)
  · rcases hx with ⟨rfl, hwx⟩ | ⟨rfl, hwx⟩
    · refine ⟨(List.mem_of_getElem? (i := 2) rfl), [], ⟨0, 10, 13, 21⟩, [⟨0, 10, 17, 13⟩], rfl, fun z hz => absurd hz List.not_mem_nil, rfl, by decide, wt_2_119, fun q9 => ?_⟩
      have hw3 := hwx
      refine j_astore X (pc' := 15) (i := 4) (loc' := [(4, .ref q9), (0, .ref x1), (1, .int x2), (2, .int x3), (3, .ref x4)]) dL_faultAt_13 rfl (by decide) rfl ?_
      refine j_iconst X (pc' := 16) (v := 1) (by decide) dL_faultAt_15 rfl ?_
      exact j_iret X ⟨_, rfl, hw3⟩ (Nat.le_of_ble_eq_true rfl) (Nat.le_of_ble_eq_true rfl) dL_faultAt_16
    · refine ⟨(List.mem_of_getElem? (i := 0) rfl), [⟨0, 10, 13, 21⟩], ⟨0, 10, 17, 13⟩, [], rfl, List.forall_mem_cons.mpr ⟨⟨by decide, "java/lang/IndexOutOfBoundsException", (List.mem_of_getElem? (i := 2) rfl), by decide, wt_2_119⟩, fun z hz => absurd hz List.not_mem_nil⟩, rfl, by decide, wt_1_152, fun q9 => ?_⟩
      have hw4 := hwx
      refine j_astore X (pc' := 19) (i := 4) (loc' := [(4, .ref q9), (0, .ref x1), (1, .int x2), (2, .int x3), (3, .ref x4)]) dL_faultAt_17 rfl (by decide) rfl ?_
      refine j_iconst X (pc' := 20) (v := 2) (by decide) dL_faultAt_19 rfl ?_
      exact j_iret X ⟨_, rfl, hw4⟩ (Nat.le_of_ble_eq_true rfl) (Nat.le_of_ble_eq_true rfl) dL_faultAt_20
  · refine j_i2l X (pc' := 9) dL_faultAt_8 rfl ?_
    obtain ⟨n3, f4, hm5, hi6, hw5⟩ := hw2
    refine jp_last X (pc' := 10) hm5 hi6 dL_faultAt_9 rfl (fun μ7 e8 => ?_)
    have hw6 := hw5 μ7 e8
    refine j_goto X (tgt := 21) dL_faultAt_10 (by decide) ?_
    refine j_iconst X (pc' := 22) (v := 0) (by decide) dL_faultAt_21 rfl ?_
    exact j_iret X ⟨_, rfl, hw6⟩ (Nat.le_of_ble_eq_true rfl) (Nat.le_of_ble_eq_true rfl) dL_faultAt_22
