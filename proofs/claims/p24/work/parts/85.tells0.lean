abbrev yX6_tell0 : MethodName := yX6_tell
abbrev cX6_tell0 : ByteArray := cX6_tell
abbrev yL_tells0 : MethodName := yL_tells
abbrev cL_tells0 : ByteArray := cL_tells
theorem hd_X6_tell0 : yX6_tell0.cls = RX6 ∧ yX6_tell0.cls ≠ "java/lang/invoke/MethodHandle" ∧ yX6_tell0.cls ≠ "java/lang/invoke/VarHandle" ∧ (parseMethodDescriptor yX6_tell0.desc).map (fun d => d.parameters.length) = some 1 := ⟨rfl, by decide +kernel, by decide +kernel, by decide +kernel⟩
theorem gk_X6_tell0 {own : String} {idx : Nat} (h : Cond.methodLink own idx yX6_tell0 ∈ wsA) : GoodIn wsA (wsV own idx RX6 yX6_tell0 (.code yX6_tell0 cX6_tell0 2 (some .int) :: wsA)) := gd_V h wt_2_192 wt_2_193 wt_1_1 wt_2_194
/-! BitNotation.tell(I)I -/
theorem dX6_tell0_0 : decode cX6_tell0 0 = .ok (.iload_n 1, 1) := dX6_tell_0
theorem dX6_tell0_1 : decode cX6_tell0 1 = .ok (.sipush (-1000), 3) := dX6_tell_1
theorem dX6_tell0_4 : decode cX6_tell0 4 = .ok (.sipush 1000, 3) := dX6_tell_4
theorem dX6_tell0_7 : decode cX6_tell0 7 = .ok (.invokestatic 49, 3) := dX6_tell_7
theorem dX6_tell0_10 : decode cX6_tell0 10 = .ok (.ifCond .eq 13, 3) := dX6_tell_10
theorem dX6_tell0_13 : decode cX6_tell0 13 = .ok (.new 53, 3) := dX6_tell_13
theorem dX6_tell0_16 : decode cX6_tell0 16 = .ok (.dup, 1) := dX6_tell_16
theorem dX6_tell0_17 : decode cX6_tell0 17 = .ok (.ldc 134, 2) := dX6_tell_17
theorem dX6_tell0_19 : decode cX6_tell0 19 = .ok (.invokespecial 57, 3) := dX6_tell_19
theorem dX6_tell0_22 : decode cX6_tell0 22 = .ok (.athrow, 1) := dX6_tell_22
theorem dX6_tell0_23 : decode cX6_tell0 23 = .ok (.aload_n 0, 1) := dX6_tell_23
theorem dX6_tell0_24 : decode cX6_tell0 24 = .ok (.getfield 21, 3) := dX6_tell_24
theorem dX6_tell0_27 : decode cX6_tell0 27 = .ok (.invokevirtual 136, 3) := dX6_tell_27
theorem dX6_tell0_30 : decode cX6_tell0 30 = .ok (.ifCond .eq 13, 3) := dX6_tell_30
theorem dX6_tell0_33 : decode cX6_tell0 33 = .ok (.new 92, 3) := dX6_tell_33
theorem dX6_tell0_36 : decode cX6_tell0 36 = .ok (.dup, 1) := dX6_tell_36
theorem dX6_tell0_37 : decode cX6_tell0 37 = .ok (.ldc 137, 2) := dX6_tell_37
theorem dX6_tell0_39 : decode cX6_tell0 39 = .ok (.invokespecial 96, 3) := dX6_tell_39
theorem dX6_tell0_42 : decode cX6_tell0 42 = .ok (.athrow, 1) := dX6_tell_42
theorem dX6_tell0_43 : decode cX6_tell0 43 = .ok (.aload_n 0, 1) := dX6_tell_43
theorem dX6_tell0_44 : decode cX6_tell0 44 = .ok (.getfield 21, 3) := dX6_tell_44
theorem dX6_tell0_47 : decode cX6_tell0 47 = .ok (.iload_n 1, 1) := dX6_tell_47
theorem dX6_tell0_48 : decode cX6_tell0 48 = .ok (.invokevirtual 139, 3) := dX6_tell_48
theorem dX6_tell0_51 : decode cX6_tell0 51 = .ok (.aload_n 0, 1) := dX6_tell_51
theorem dX6_tell0_52 : decode cX6_tell0 52 = .ok (.getfield 21, 3) := dX6_tell_52
theorem dX6_tell0_55 : decode cX6_tell0 55 = .ok (.invokevirtual 141, 3) := dX6_tell_55
theorem dX6_tell0_58 : decode cX6_tell0 58 = .ok (.ireturn, 1) := dX6_tell_58
def wp_X6_tell0 (o : Nat) (x1 : Int32) (μ : Mm) (post : Int32 → Mm → Prop) : Prop := wp_X6_isOutside x1 (-1000 : Int32) (1000 : Int32) (fun r1 => (r1 = 0 → (∃ f3 g4, μ o = some (.inl (5, f3)) ∧ f3[1]? = some (.ref g4) ∧ (∃ f27, μ g4 = some (.inl (1, f27))) ∧ wp_X2_isFull g4 μ (fun r7 μ8 => (r7 = 0 → (∃ f10 g11, μ8 o = some (.inl (5, f10)) ∧ f10[1]? = some (.ref g11) ∧ (∃ f25, μ8 g11 = some (.inl (1, f25))) ∧ wp_X2_append g11 x1 μ8 (fun μ15 => ∃ f16 g17, μ15 o = some (.inl (5, f16)) ∧ f16[1]? = some (.ref g17) ∧ (∃ f23, μ15 g17 = some (.inl (1, f23))) ∧ wp_X2_size g17 μ15 (fun r20 μ21 => post r20 μ21)))) ∧ (¬ r7 = 0 → (False))))) ∧ (¬ r1 = 0 → (False)))
set_option maxHeartbeats 4000000 in
set_option maxRecDepth 100000 in
theorem c_X6_tell0 (l : Launch) (G : gG) (A : Nat → Prop) (o : Nat) (x1 : Int32) (μ : Mm) (post : Int32 → Mm → Prop) (h : wp_X6_tell0 o x1 μ post) : Met l yX6_tell0 (.code yX6_tell0 cX6_tell0 2 (some .int) :: wsA) (rmL (1) 0 0) (PcG G A μ [.ref o, .int x1]) (QG G A (pI post)) 0 0 A := by
  refine met_J (loc := [(0, .ref o), (1, .int x1)]) (by decide +kernel) (Nat.le_of_ble_eq_true rfl) rfl ?_
  intro p e s m args below meth c X hin
  have X : Cx p l s m args meth c cX6_tell0 2 (some .int) RX6 G A := X
  have hw := h
  unfold wp_X6_tell0 at hw
  refine j_iload_n X (pc' := 1) (kk := 1) (i := 1) 1 rfl rfl dX6_tell0_0 rfl ?_
  refine j_sipush X (pc' := 4) (v := (-1000)) (by decide) dX6_tell0_1 rfl ?_
  refine j_sipush X (pc' := 7) (v := 1000) (by decide) dX6_tell0_4 rfl ?_
  refine j_callSp (As := [.int x1, .int (-1000 : Int32), .int (1000 : Int32)]) (rest := []) X (pc' := 10) (cells' := 0) (slots' := 0) (c_X6_isOutside l G A μ x1 (-1000 : Int32) (1000 : Int32) _ hw) (gk_X6_isOutside wt_1_153) hd_X6_isOutside (rmL_fit (k1 := 0) (k := 1) (by omega) (by decide)) rfl rfl (Nat.le_of_ble_eq_true rfl) dX6_tell0_7 rfl ⟨Nat.le_of_ble_eq_true rfl, Nat.le_of_ble_eq_true rfl⟩ rfl rfl (fun r1 hw1 => ?_)
  refine j_if_eq X (pc' := 13) (tgt := 23) dX6_tell0_10 rfl (by decide) (fun c2 => ?_) (fun c2 => ?_)
  · have hw2 := hw1.1 c2
    refine j_aload_n X (pc' := 24) (kk := 0) (i := 0) 0 rfl rfl dX6_tell0_23 rfl ?_
    obtain ⟨f3, g4, hm5, hv6, hw3⟩ := hw2
    refine j_getf X (pc' := 27) hm5 1 hv6 rfl fw_TX6 (by decide) wt_1_99 dX6_tell0_24 rfl ?_
    obtain ⟨⟨f27, hm26⟩, hw4⟩ := hw3
    refine j_callVi (As := []) (rest := []) X (pc' := 30) (cells' := 0) (slots' := 0) (c_X2_isFull l G A g4 μ _ hw4) (gk_X2_isFull wt_2_196) hd_X2_isFull (rmL_fit (k1 := 0) (k := 1) (by omega) (by decide)) hm26 rfl rfl rfl (Nat.le_of_ble_eq_true rfl) dX6_tell0_27 rfl ⟨Nat.le_of_ble_eq_true rfl, Nat.le_of_ble_eq_true rfl⟩ rfl rfl (fun r7 μ8 hw5 => ?_)
    refine j_if_eq X (pc' := 33) (tgt := 43) dX6_tell0_30 rfl (by decide) (fun c9 => ?_) (fun c9 => ?_)
    · have hw6 := hw5.1 c9
      refine j_aload_n X (pc' := 44) (kk := 0) (i := 0) 0 rfl rfl dX6_tell0_43 rfl ?_
      obtain ⟨f10, g11, hm12, hv13, hw7⟩ := hw6
      refine j_getf X (pc' := 47) hm12 1 hv13 rfl fw_TX6 (by decide) wt_1_99 dX6_tell0_44 rfl ?_
      refine j_iload_n X (pc' := 48) (kk := 1) (i := 1) 1 rfl rfl dX6_tell0_47 rfl ?_
      obtain ⟨⟨f25, hm24⟩, hw8⟩ := hw7
      refine j_callVv (As := [.int x1]) (rest := []) X (pc' := 51) (cells' := 0) (slots' := 0) (c_X2_append l G A g11 x1 μ8 _ hw8) (gk_X2_append wt_2_201) hd_X2_append (rmL_fit (k1 := 0) (k := 1) (by omega) (by decide)) hm24 rfl rfl rfl (Nat.le_of_ble_eq_true rfl) dX6_tell0_48 rfl ⟨Nat.le_of_ble_eq_true rfl, Nat.le_of_ble_eq_true rfl⟩ rfl rfl (fun μ15 hw9 => ?_)
      refine j_aload_n X (pc' := 52) (kk := 0) (i := 0) 0 rfl rfl dX6_tell0_51 rfl ?_
      obtain ⟨f16, g17, hm18, hv19, hw10⟩ := hw9
      refine j_getf X (pc' := 55) hm18 1 hv19 rfl fw_TX6 (by decide) wt_1_99 dX6_tell0_52 rfl ?_
      obtain ⟨⟨f23, hm22⟩, hw11⟩ := hw10
      refine j_callVi (As := []) (rest := []) X (pc' := 58) (cells' := 0) (slots' := 0) (c_X2_size l G A g17 μ15 _ hw11) (gk_X2_size wt_1_140) hd_X2_size (rmL_fit (k1 := 0) (k := 1) (by omega) (by decide)) hm22 rfl rfl rfl (Nat.le_of_ble_eq_true rfl) dX6_tell0_55 rfl ⟨Nat.le_of_ble_eq_true rfl, Nat.le_of_ble_eq_true rfl⟩ rfl rfl (fun r20 μ21 hw12 => ?_)
      exact j_iret X ⟨_, rfl, hw12⟩ (Nat.le_of_ble_eq_true rfl) (Nat.le_of_ble_eq_true rfl) dX6_tell0_58
    · have hw13 := hw5.2 c9
      exact hw13.elim
  · have hw14 := hw1.2 c2
    exact hw14.elim
theorem hd_L_tells0 : yL_tells0.cls ≠ "java/lang/invoke/MethodHandle" ∧ yL_tells0.cls ≠ "java/lang/invoke/VarHandle" ∧ (parseMethodDescriptor yL_tells0.desc).map (fun d => d.parameters.length) = some 2 := ⟨by decide +kernel, by decide +kernel, by decide +kernel⟩
theorem gk_L_tells0 {own : String} {idx : Nat} (h : Cond.methodLink own idx yL_tells0 ∈ wsA) : GoodIn wsA (va_wsS own idx yL_tells0 (.codeWith yL_tells0 cL_tells0 3 (some .int) [(0, 5, 6, 13), (0, 5, 10, 16)] :: wsA)) := gd_S h wt_2_189 wt_1_0 wt_2_190
/-! BitNotationLaw.tells(LBitNotation;I)I -/
theorem dL_tells0_0 : decode cL_tells0 0 = .ok (.aload_n 0, 1) := dL_tells_0
theorem dL_tells0_1 : decode cL_tells0 1 = .ok (.iload_n 1, 1) := dL_tells_1
theorem dL_tells0_2 : decode cL_tells0 2 = .ok (.invokevirtual 47, 3) := dL_tells_2
theorem dL_tells0_5 : decode cL_tells0 5 = .ok (.ireturn, 1) := dL_tells_5
theorem dL_tells0_6 : decode cL_tells0 6 = .ok (.astore_n 2, 1) := dL_tells_6
theorem dL_tells0_7 : decode cL_tells0 7 = .ok (.ldc 15, 2) := dL_tells_7
theorem dL_tells0_9 : decode cL_tells0 9 = .ok (.ireturn, 1) := dL_tells_9
theorem dL_tells0_10 : decode cL_tells0 10 = .ok (.astore_n 2, 1) := dL_tells_10
theorem dL_tells0_11 : decode cL_tells0 11 = .ok (.ldc 18, 2) := dL_tells_11
theorem dL_tells0_13 : decode cL_tells0 13 = .ok (.ireturn, 1) := dL_tells_13
def wp_L_tells0 (x1 : Nat) (x2 : Int32) (μ : Mm) (post : Int32 → Mm → Prop) : Prop := (∃ f4, μ x1 = some (.inl (5, f4))) ∧ wp_X6_tell0 x1 x2 μ (fun r1 μ2 => post r1 μ2)
set_option maxHeartbeats 4000000 in
set_option maxRecDepth 100000 in
theorem c_L_tells0 (l : Launch) (G : gG) (A : Nat → Prop) (hl0 : l.stackTraces = false) (x1 : Nat) (x2 : Int32) (μ : Mm) (post : Int32 → Mm → Prop) (h : wp_L_tells0 x1 x2 μ post) : Met l yL_tells0 (.codeWith yL_tells0 cL_tells0 3 (some .int) [(0, 5, 6, 13), (0, 5, 10, 16)] :: wsA) (rmL (2) 0 0) (PcG G A μ [.ref x1, .int x2]) (QG G A (pI post)) 0 0 A := by
  refine met_JW (loc := [(0, .ref x1), (1, .int x2)]) (by decide +kernel) (Nat.le_of_ble_eq_true rfl) rfl ?_
  intro p e s m args below meth c X htab
  have X : Cx p l s m args meth c cL_tells0 3 (some .int) RL G A := X
  have hw := h
  unfold wp_L_tells0 at hw
  refine j_aload_n X (pc' := 1) (kk := 0) (i := 0) 0 rfl rfl dL_tells0_0 rfl ?_
  refine j_iload_n X (pc' := 2) (kk := 1) (i := 1) 1 rfl rfl dL_tells0_1 rfl ?_
  obtain ⟨⟨f4, hm3⟩, hw1⟩ := hw
  refine j_callVi (As := [.int x2]) (rest := []) X (pc' := 5) (cells' := 0) (slots' := 0) (c_X6_tell0 l G A x1 x2 μ _ hw1) (gk_X6_tell0 wt_2_191) hd_X6_tell0 (rmL_fit (k1 := 1) (k := 2) (by omega) (by decide)) hm3 rfl rfl rfl (Nat.le_of_ble_eq_true rfl) dL_tells0_2 rfl ⟨Nat.le_of_ble_eq_true rfl, Nat.le_of_ble_eq_true rfl⟩ rfl rfl (fun r1 μ2 hw2 => ?_)
  exact j_iret X ⟨_, rfl, hw2⟩ (Nat.le_of_ble_eq_true rfl) (Nat.le_of_ble_eq_true rfl) dL_tells0_5
