/-! BitNotation$Type.isOptional(I)Z -/
theorem dX3_isOptional_0 : decode cX3_isOptional 0 = .ok (.aload_n 0, 1) := by decide +kernel
theorem dX3_isOptional_1 : decode cX3_isOptional 1 = .ok (.getfield 42, 3) := by decide +kernel
theorem dX3_isOptional_4 : decode cX3_isOptional 4 = .ok (.iload_n 1, 1) := by decide +kernel
theorem dX3_isOptional_5 : decode cX3_isOptional 5 = .ok (.ishr, 1) := by decide +kernel
theorem dX3_isOptional_6 : decode cX3_isOptional 6 = .ok (.iconst 1, 1) := by decide +kernel
theorem dX3_isOptional_7 : decode cX3_isOptional 7 = .ok (.iand, 1) := by decide +kernel
theorem dX3_isOptional_8 : decode cX3_isOptional 8 = .ok (.iconst 1, 1) := by decide +kernel
theorem dX3_isOptional_9 : decode cX3_isOptional 9 = .ok (.if_icmp .ne 7, 3) := by decide +kernel
theorem dX3_isOptional_12 : decode cX3_isOptional 12 = .ok (.iconst 1, 1) := by decide +kernel
theorem dX3_isOptional_13 : decode cX3_isOptional 13 = .ok (.goto 4, 3) := by decide +kernel
theorem dX3_isOptional_16 : decode cX3_isOptional 16 = .ok (.iconst 0, 1) := by decide +kernel
theorem dX3_isOptional_17 : decode cX3_isOptional 17 = .ok (.ireturn, 1) := by decide +kernel
def wp_X3_isOptional (o : Nat) (x1 : Int32) (μ : Mm) (post : Int32 → Mm → Prop) : Prop := ∃ f1 g2, μ o = some (.inl (2, f1)) ∧ f1[5]? = some (.int g2) ∧ (¬ ((g2 >>> (x1 &&& 31)) &&& (1 : Int32)) = (1 : Int32) → (post (0 : Int32) μ)) ∧ (((g2 >>> (x1 &&& 31)) &&& (1 : Int32)) = (1 : Int32) → (post (1 : Int32) μ))
set_option maxHeartbeats 4000000 in
set_option maxRecDepth 100000 in
theorem c_X3_isOptional (l : Launch) (G : gG) (A : Nat → Prop) (o : Nat) (x1 : Int32) (μ : Mm) (post : Int32 → Mm → Prop) (h : wp_X3_isOptional o x1 μ post) : Met l yX3_isOptional (.code yX3_isOptional cX3_isOptional 2 (some .boolean) :: wsA) (rmL (0) 0 0) (PcG G A μ [.ref o, .int x1]) (QG G A (pI post)) 0 0 A := by
  refine met_J (loc := [(0, .ref o), (1, .int x1)]) (by decide +kernel) (Nat.le_of_ble_eq_true rfl) rfl ?_
  intro p e s m args below meth c X hin
  have X : Cx p l s m args meth c cX3_isOptional 2 (some .boolean) RX3 G A := X
  have hw := h
  unfold wp_X3_isOptional at hw
  refine j_aload_n X (pc' := 1) (kk := 0) (i := 0) 0 rfl rfl dX3_isOptional_0 rfl ?_
  obtain ⟨f1, g2, hm3, hv4, hw1⟩ := hw
  refine j_getf X (pc' := 4) hm3 5 hv4 rfl fw_TX3 (by decide) wt_2_15 dX3_isOptional_1 rfl ?_
  refine j_iload_n X (pc' := 5) (kk := 1) (i := 1) 1 rfl rfl dX3_isOptional_4 rfl ?_
  refine j_ishr X (pc' := 6) dX3_isOptional_5 rfl ?_
  refine j_iconst X (pc' := 7) (v := 1) (by decide) dX3_isOptional_6 rfl ?_
  refine j_iand X (pc' := 8) dX3_isOptional_7 rfl ?_
  refine j_iconst X (pc' := 9) (v := 1) (by decide) dX3_isOptional_8 rfl ?_
  refine j_icmp_ne X (pc' := 12) (tgt := 16) dX3_isOptional_9 rfl (by decide) (fun c5 => ?_) (fun c5 => ?_)
  · have hw2 := hw1.1 c5
    refine j_iconst X (pc' := 17) (v := 0) (by decide) dX3_isOptional_16 rfl ?_
    exact j_zret X (Or.inl rfl) ⟨_, rfl, hw2⟩ (Nat.le_of_ble_eq_true rfl) (Nat.le_of_ble_eq_true rfl) dX3_isOptional_17
  · have hw3 := hw1.2 c5
    refine j_iconst X (pc' := 13) (v := 1) (by decide) dX3_isOptional_12 rfl ?_
    refine j_goto X (tgt := 17) dX3_isOptional_13 (by decide) ?_
    exact j_zret X (Or.inr rfl) ⟨_, rfl, hw3⟩ (Nat.le_of_ble_eq_true rfl) (Nat.le_of_ble_eq_true rfl) dX3_isOptional_17
/-! BitNotation$Type.<init>(LBitNotation$Kind;IILBitNotation$TypeRow;I)V -/
theorem dX3_init_0 : decode cX3_init 0 = .ok (.aload_n 0, 1) := by decide +kernel
theorem dX3_init_1 : decode cX3_init 1 = .ok (.invokespecial 3, 3) := by decide +kernel
theorem dX3_init_4 : decode cX3_init 4 = .ok (.aload_n 0, 1) := by decide +kernel
theorem dX3_init_5 : decode cX3_init 5 = .ok (.iconst 0, 1) := by decide +kernel
theorem dX3_init_6 : decode cX3_init 6 = .ok (.putfield 9, 3) := by decide +kernel
theorem dX3_init_9 : decode cX3_init 9 = .ok (.aload_n 0, 1) := by decide +kernel
theorem dX3_init_10 : decode cX3_init 10 = .ok (.iconst 0, 1) := by decide +kernel
theorem dX3_init_11 : decode cX3_init 11 = .ok (.putfield 15, 3) := by decide +kernel
theorem dX3_init_14 : decode cX3_init 14 = .ok (.aload_n 0, 1) := by decide +kernel
theorem dX3_init_15 : decode cX3_init 15 = .ok (.iconst 0, 1) := by decide +kernel
theorem dX3_init_16 : decode cX3_init 16 = .ok (.putfield 18, 3) := by decide +kernel
theorem dX3_init_19 : decode cX3_init 19 = .ok (.aload_n 0, 1) := by decide +kernel
theorem dX3_init_20 : decode cX3_init 20 = .ok (.aload_n 1, 1) := by decide +kernel
theorem dX3_init_21 : decode cX3_init 21 = .ok (.putfield 21, 3) := by decide +kernel
theorem dX3_init_24 : decode cX3_init 24 = .ok (.aload_n 0, 1) := by decide +kernel
theorem dX3_init_25 : decode cX3_init 25 = .ok (.iload_n 2, 1) := by decide +kernel
theorem dX3_init_26 : decode cX3_init 26 = .ok (.putfield 25, 3) := by decide +kernel
theorem dX3_init_29 : decode cX3_init 29 = .ok (.aload_n 0, 1) := by decide +kernel
theorem dX3_init_30 : decode cX3_init 30 = .ok (.iload_n 3, 1) := by decide +kernel
theorem dX3_init_31 : decode cX3_init 31 = .ok (.putfield 28, 3) := by decide +kernel
theorem dX3_init_34 : decode cX3_init 34 = .ok (.aload_n 0, 1) := by decide +kernel
theorem dX3_init_35 : decode cX3_init 35 = .ok (.iload_n 3, 1) := by decide +kernel
theorem dX3_init_36 : decode cX3_init 36 = .ok (.iload_n 2, 1) := by decide +kernel
theorem dX3_init_37 : decode cX3_init 37 = .ok (.isub, 1) := by decide +kernel
theorem dX3_init_38 : decode cX3_init 38 = .ok (.iconst 1, 1) := by decide +kernel
theorem dX3_init_39 : decode cX3_init 39 = .ok (.iadd, 1) := by decide +kernel
theorem dX3_init_40 : decode cX3_init 40 = .ok (.invokestatic 31, 3) := by decide +kernel
theorem dX3_init_43 : decode cX3_init 43 = .ok (.putfield 35, 3) := by decide +kernel
theorem dX3_init_46 : decode cX3_init 46 = .ok (.aload_n 0, 1) := by decide +kernel
theorem dX3_init_47 : decode cX3_init 47 = .ok (.aload 4, 2) := by decide +kernel
theorem dX3_init_49 : decode cX3_init 49 = .ok (.putfield 38, 3) := by decide +kernel
theorem dX3_init_52 : decode cX3_init 52 = .ok (.aload_n 0, 1) := by decide +kernel
theorem dX3_init_53 : decode cX3_init 53 = .ok (.iload 5, 2) := by decide +kernel
theorem dX3_init_55 : decode cX3_init 55 = .ok (.putfield 42, 3) := by decide +kernel
theorem dX3_init_58 : decode cX3_init 58 = .ok (.aload_n 0, 1) := by decide +kernel
theorem dX3_init_59 : decode cX3_init 59 = .ok (.new 45, 3) := by decide +kernel
theorem dX3_init_62 : decode cX3_init 62 = .ok (.dup, 1) := by decide +kernel
theorem dX3_init_63 : decode cX3_init 63 = .ok (.aload_n 1, 1) := by decide +kernel
theorem dX3_init_64 : decode cX3_init 64 = .ok (.getstatic 47, 3) := by decide +kernel
theorem dX3_init_67 : decode cX3_init 67 = .ok (.if_acmp .ne 7, 3) := by decide +kernel
theorem dX3_init_70 : decode cX3_init 70 = .ok (.iconst 3, 1) := by decide +kernel
theorem dX3_init_71 : decode cX3_init 71 = .ok (.goto 4, 3) := by decide +kernel
theorem dX3_init_74 : decode cX3_init 74 = .ok (.iconst 0, 1) := by decide +kernel
theorem dX3_init_75 : decode cX3_init 75 = .ok (.invokespecial 52, 3) := by decide +kernel
theorem dX3_init_78 : decode cX3_init 78 = .ok (.putfield 55, 3) := by decide +kernel
theorem dX3_init_81 : decode cX3_init 81 = .ok (.return_, 1) := by decide +kernel
def wb_X3_init_75 (o : Nat) (kd : Nat → Nat) (post : Mm → Prop)  (s0 : Int32) (s1 : Nat) (s2 : Nat) (μ : Mm) : Prop := wp_X4_init s1 3 s0 μ (fun μ54 => ∃ f55, μ54 o = some (.inl (2, f55)) ∧ 6 < f55.length ∧ ∀ μ58, μ58 = ups μ54 o (.inl (2, f55.set 6 (.ref s2))) → post μ58)
set_option maxHeartbeats 4000000 in
set_option maxRecDepth 100000 in
theorem tb_X3_init_75 {p : Program} {l : Launch} {e : Env} {s : State} {m : MethodId} {args : Array Value} {below : List Frame} {meth : Method} {c : Code} {G : gG} {A : Nat → Prop} {o : Nat} {kd : Nat → Nat} {post : Mm → Prop} (X : Cx p l s m args meth c cX3_init 6 none RX3 G A) (hkd : G.2.2 = kd) (hin : meth.name = "<init>") : ∀ (s0 : Int32) (s1 : Nat) (s2 : Nat) (μ : Mm), wb_X3_init_75 o kd post s0 s1 s2 μ → J p l e (rmL (1) 2 5) s m args below meth c 6 G A (MQ below (QG G A (pV post)) args s 2 5 A) 1 2 75 [(0, .ref o)] [.int s0, .ref s1, .ref s2, .ref o] μ := by
  intro s0 s1 s2 μ hw
  unfold wb_X3_init_75 at hw
  refine j_callIv (As := [.int s0]) (rest := [.ref s2, .ref o]) X (pc' := 78) (cells' := 2) (slots' := 5) (c_X4_init l G A 3 (by decide) s1 s0 μ _ hw) wt_1_238 wt_1_27 wt_1_2 wt_1_28 rfl hd_X4_init (rmL_fit (k1 := 0) (k := 1) (by omega) (by decide)) rfl rfl (Nat.le_of_ble_eq_true rfl) dX3_init_75 rfl ⟨Nat.le_of_ble_eq_true rfl, Nat.le_of_ble_eq_true rfl⟩ rfl rfl (fun μ54 hw1 => ?_)
  obtain ⟨f55, hm56, hl57, hw2⟩ := hw1
  refine jp_putF X (pc' := 81) (ty := (.object "BitNotation$TypeRow")) hin hm56 6 hl57 rfl fw_TX3 tyX3_ok nmX3 (by decide) rfl rfl wt_2_16 (by decide +kernel) rfl rfl dX3_init_78 rfl (fun μ58 e59 => ?_)
  have hw3 := hw2 μ58 e59
  exact j_vret X ⟨rfl, hw3⟩ (Nat.le_of_ble_eq_true rfl) (Nat.le_of_ble_eq_true rfl) dX3_init_81
def wp_X3_init (o : Nat) (kd : Nat → Nat) (x1 : Nat) (x2 : Int32) (x3 : Int32) (x4 : Nat) (x5 : Int32) (μ : Mm) (post : Mm → Prop) : Prop := ∃ f1, μ o = some (.inl (2, f1)) ∧ 7 < f1.length ∧ ∀ μ4, μ4 = ups μ o (.inl (2, f1.set 7 (.int (0 : Int32)))) → ∃ f6, μ4 o = some (.inl (2, f6)) ∧ 8 < f6.length ∧ ∀ μ9, μ9 = ups μ4 o (.inl (2, f6.set 8 (.int (0 : Int32)))) → ∃ f11, μ9 o = some (.inl (2, f11)) ∧ 9 < f11.length ∧ ∀ μ14, μ14 = ups μ9 o (.inl (2, f11.set 9 (.int (0 : Int32)))) → ∃ f16, μ14 o = some (.inl (2, f16)) ∧ 0 < f16.length ∧ ∀ μ19, μ19 = ups μ14 o (.inl (2, f16.set 0 (.ref x1))) → ∃ f21, μ19 o = some (.inl (2, f21)) ∧ 1 < f21.length ∧ ∀ μ24, μ24 = ups μ19 o (.inl (2, f21.set 1 (.int x2))) → ∃ f26, μ24 o = some (.inl (2, f26)) ∧ 2 < f26.length ∧ ∀ μ29, μ29 = ups μ24 o (.inl (2, f26.set 2 (.int x3))) → wp_X6_widthFor ((x3 - x2) + (1 : Int32)) (fun r31 => ∃ f32, μ29 o = some (.inl (2, f32)) ∧ 3 < f32.length ∧ ∀ μ35, μ35 = ups μ29 o (.inl (2, f32.set 3 (.int r31))) → ∃ f37, μ35 o = some (.inl (2, f37)) ∧ 4 < f37.length ∧ ∀ μ40, μ40 = ups μ35 o (.inl (2, f37.set 4 (.ref x4))) → ∃ f42, μ40 o = some (.inl (2, f42)) ∧ 5 < f42.length ∧ ∀ μ45, μ45 = ups μ40 o (.inl (2, f42.set 5 (.int x5))) → ∀ q47, μ45 q47 = none → ∀ μ49, μ49 = ups μ45 q47 (.inl (3, [.null, .int 0])) → (¬ some x1 = some (kd 2) → (wb_X3_init_75 o kd post (0 : Int32) q47 q47 μ49)) ∧ (some x1 = some (kd 2) → (wb_X3_init_75 o kd post (3 : Int32) q47 q47 μ49)))
set_option maxHeartbeats 4000000 in
set_option maxRecDepth 100000 in
theorem c_X3_init (l : Launch) (G : gG) (A : Nat → Prop) (kd : Nat → Nat) (hkd : G.2.2 = kd) (o : Nat) (x1 : Nat) (x2 : Int32) (x3 : Int32) (x4 : Nat) (x5 : Int32) (μ : Mm) (post : Mm → Prop) (h : wp_X3_init o kd x1 x2 x3 x4 x5 μ post) : Met l yX3_init (.code yX3_init cX3_init 6 none :: wsA) (rmL (1) 2 5) (PcG G A μ [.ref o, .ref x1, .int x2, .int x3, .ref x4, .int x5]) (QG G A (pV post)) 2 5 A := by
  refine met_J (loc := [(0, .ref o), (1, .ref x1), (2, .int x2), (3, .int x3), (4, .ref x4), (5, .int x5)]) (by decide +kernel) (Nat.le_of_ble_eq_true rfl) rfl ?_
  intro p e s m args below meth c X hin
  have X : Cx p l s m args meth c cX3_init 6 none RX3 G A := X
  have hw := h
  unfold wp_X3_init at hw
  refine j_aload_n X (pc' := 1) (kk := 0) (i := 0) 0 rfl rfl dX3_init_0 rfl ?_
  refine j_objInit X (pc' := 4) wt_1_231 wt_1_22 wt_1_23 (by show 1 ≤ _ + 6; omega) (Nat.le_trans (m := 120) (Nat.le_of_ble_eq_true rfl) (by show 120 ≤ 40 * _ + 120; omega)) dX3_init_1 rfl ?_
  refine j_aload_n X (pc' := 5) (kk := 0) (i := 0) 0 rfl rfl dX3_init_4 rfl ?_
  refine j_iconst X (pc' := 6) (v := 0) (by decide) dX3_init_5 rfl ?_
  obtain ⟨f1, hm2, hl3, hw1⟩ := hw
  refine jp_putf X (pc' := 9) (ty := .int) hm2 7 hl3 rfl fw_TX3 tyX3_ok nmX3 (by decide) rfl wt_2_20 (by decide +kernel) rfl rfl dX3_init_6 rfl (fun μ4 e5 => ?_)
  have hw2 := hw1 μ4 e5
  refine j_aload_n X (pc' := 10) (kk := 0) (i := 0) 0 rfl rfl dX3_init_9 rfl ?_
  refine j_iconst X (pc' := 11) (v := 0) (by decide) dX3_init_10 rfl ?_
  obtain ⟨f6, hm7, hl8, hw3⟩ := hw2
  refine jp_putf X (pc' := 14) (ty := .int) hm7 8 hl8 rfl fw_TX3 tyX3_ok nmX3 (by decide) rfl wt_2_22 (by decide +kernel) rfl rfl dX3_init_11 rfl (fun μ9 e10 => ?_)
  have hw4 := hw3 μ9 e10
  refine j_aload_n X (pc' := 15) (kk := 0) (i := 0) 0 rfl rfl dX3_init_14 rfl ?_
  refine j_iconst X (pc' := 16) (v := 0) (by decide) dX3_init_15 rfl ?_
  obtain ⟨f11, hm12, hl13, hw5⟩ := hw4
  refine jp_putf X (pc' := 19) (ty := .int) hm12 9 hl13 rfl fw_TX3 tyX3_ok nmX3 (by decide) rfl wt_2_24 (by decide +kernel) rfl rfl dX3_init_16 rfl (fun μ14 e15 => ?_)
  have hw6 := hw5 μ14 e15
  refine j_aload_n X (pc' := 20) (kk := 0) (i := 0) 0 rfl rfl dX3_init_19 rfl ?_
  refine j_aload_n X (pc' := 21) (kk := 1) (i := 1) 1 rfl rfl dX3_init_20 rfl ?_
  obtain ⟨f16, hm17, hl18, hw7⟩ := hw6
  refine jp_putF X (pc' := 24) (ty := (.object "BitNotation$Kind")) hin hm17 0 hl18 rfl fw_TX3 tyX3_ok nmX3 (by decide) rfl rfl wt_1_239 (by decide +kernel) rfl rfl dX3_init_21 rfl (fun μ19 e20 => ?_)
  have hw8 := hw7 μ19 e20
  refine j_aload_n X (pc' := 25) (kk := 0) (i := 0) 0 rfl rfl dX3_init_24 rfl ?_
  refine j_iload_n X (pc' := 26) (kk := 2) (i := 2) 2 rfl rfl dX3_init_25 rfl ?_
  obtain ⟨f21, hm22, hl23, hw9⟩ := hw8
  refine jp_putF X (pc' := 29) (ty := .int) hin hm22 1 hl23 rfl fw_TX3 tyX3_ok nmX3 (by decide) rfl rfl wt_2_3 (by decide +kernel) rfl rfl dX3_init_26 rfl (fun μ24 e25 => ?_)
  have hw10 := hw9 μ24 e25
  refine j_aload_n X (pc' := 30) (kk := 0) (i := 0) 0 rfl rfl dX3_init_29 rfl ?_
  refine j_iload_n X (pc' := 31) (kk := 3) (i := 3) 3 rfl rfl dX3_init_30 rfl ?_
  obtain ⟨f26, hm27, hl28, hw11⟩ := hw10
  refine jp_putF X (pc' := 34) (ty := .int) hin hm27 2 hl28 rfl fw_TX3 tyX3_ok nmX3 (by decide) rfl rfl wt_2_6 (by decide +kernel) rfl rfl dX3_init_31 rfl (fun μ29 e30 => ?_)
  have hw12 := hw11 μ29 e30
  refine j_aload_n X (pc' := 35) (kk := 0) (i := 0) 0 rfl rfl dX3_init_34 rfl ?_
  refine j_iload_n X (pc' := 36) (kk := 3) (i := 3) 3 rfl rfl dX3_init_35 rfl ?_
  refine j_iload_n X (pc' := 37) (kk := 2) (i := 2) 2 rfl rfl dX3_init_36 rfl ?_
  refine j_isub X (pc' := 38) dX3_init_37 rfl ?_
  refine j_iconst X (pc' := 39) (v := 1) (by decide) dX3_init_38 rfl ?_
  refine j_iadd X (pc' := 40) dX3_init_39 rfl ?_
  refine j_callSNp (As := [.int ((x3 - x2) + (1 : Int32))]) (rest := [.ref o]) X (pc' := 43) (cells' := 0) (slots' := 0) (c_X6_widthFor l G A μ29 ((x3 - x2) + (1 : Int32)) _ hw12) (List.mem_of_getElem? (i := 2) rfl) wt_1_233 wt_1_1 wt_1_234 hd_X6_widthFor (rmL_fit (k1 := 0) (k := 1) (by omega) (by decide)) rfl rfl (Nat.le_of_ble_eq_true rfl) dX3_init_40 rfl ⟨Nat.le_of_ble_eq_true rfl, Nat.le_of_ble_eq_true rfl⟩ rfl rfl (fun r31 hw13 => ?_)
  obtain ⟨f32, hm33, hl34, hw14⟩ := hw13
  refine jp_putF X (pc' := 46) (ty := .int) hin hm33 3 hl34 rfl fw_TX3 tyX3_ok nmX3 (by decide) rfl rfl wt_2_9 (by decide +kernel) rfl rfl dX3_init_43 rfl (fun μ35 e36 => ?_)
  have hw15 := hw14 μ35 e36
  refine j_aload_n X (pc' := 47) (kk := 0) (i := 0) 0 rfl rfl dX3_init_46 rfl ?_
  refine j_aload X (pc' := 49) (i := 4) 4 rfl dX3_init_47 rfl ?_
  obtain ⟨f37, hm38, hl39, hw16⟩ := hw15
  refine jp_putF X (pc' := 52) (ty := (.object "BitNotation$TypeRow")) hin hm38 4 hl39 rfl fw_TX3 tyX3_ok nmX3 (by decide) rfl rfl wt_2_12 (by decide +kernel) rfl rfl dX3_init_49 rfl (fun μ40 e41 => ?_)
  have hw17 := hw16 μ40 e41
  refine j_aload_n X (pc' := 53) (kk := 0) (i := 0) 0 rfl rfl dX3_init_52 rfl ?_
  refine j_iload X (pc' := 55) (i := 5) 5 rfl dX3_init_53 rfl ?_
  obtain ⟨f42, hm43, hl44, hw18⟩ := hw17
  refine jp_putF X (pc' := 58) (ty := .int) hin hm43 5 hl44 rfl fw_TX3 tyX3_ok nmX3 (by decide) rfl rfl wt_2_15 (by decide +kernel) rfl rfl dX3_init_55 rfl (fun μ45 e46 => ?_)
  have hw19 := hw18 μ45 e46
  refine j_aload_n X (pc' := 59) (kk := 0) (i := 0) 0 rfl rfl dX3_init_58 rfl ?_
  refine jp_new X (pc' := 62) (cells' := 1) (slots' := 2) (ci := 3) (fs := [.null, .int 0]) rfl fw_TX4 tyX4_ok wt_1_235 wt_1_25 wt_1_2 df_X4 (Nat.le_of_ble_eq_true rfl) (Nat.le_of_ble_eq_true rfl) rfl rfl dX3_init_59 rfl (fun q47 hq48 μ49 e50 => ?_)
  have hw20 := hw19 q47 hq48 μ49 e50
  refine j_dup X (pc' := 63) rfl dX3_init_62 rfl ?_
  refine j_aload_n X (pc' := 64) (kk := 1) (i := 1) 1 rfl rfl dX3_init_63 rfl ?_
  refine jp_kind X (pc' := 67) hkd 2 (by decide) wt_1_236 dX3_init_64 rfl ?_
  refine j_acmp_ne X (rx := some x1) (ry := some (kd 2)) (pc' := 70) (tgt := 74) dX3_init_67 rfl (by decide) (fun c51 => ?_) (fun c51 => ?_)
  · have hw21 := hw20.1 c51
    refine j_iconst X (pc' := 75) (v := 0) (by decide) dX3_init_74 rfl ?_
    refine j_loc [0] rfl ?_
    exact tb_X3_init_75 X hkd hin _ _ _ _ hw21
  · have hw22 := hw20.2 c51
    refine j_iconst X (pc' := 71) (v := 3) (by decide) dX3_init_70 rfl ?_
    refine j_goto X (tgt := 75) dX3_init_71 (by decide) ?_
    refine j_loc [0] rfl ?_
    exact tb_X3_init_75 X hkd hin _ _ _ _ hw22
/-! BitNotation$Type.measureThings()V -/
theorem dX3_measureThings_0 : decode cX3_measureThings 0 = .ok (.aload_n 0, 1) := by decide +kernel
theorem dX3_measureThings_1 : decode cX3_measureThings 1 = .ok (.getfield 38, 3) := by decide +kernel
theorem dX3_measureThings_4 : decode cX3_measureThings 4 = .ok (.iconst 0, 1) := by decide +kernel
theorem dX3_measureThings_5 : decode cX3_measureThings 5 = .ok (.invokevirtual 76, 3) := by decide +kernel
theorem dX3_measureThings_8 : decode cX3_measureThings 8 = .ok (.astore_n 1, 1) := by decide +kernel
theorem dX3_measureThings_9 : decode cX3_measureThings 9 = .ok (.aload_n 1, 1) := by decide +kernel
theorem dX3_measureThings_10 : decode cX3_measureThings 10 = .ok (.ifnull 57, 3) := by decide +kernel
theorem dX3_measureThings_13 : decode cX3_measureThings 13 = .ok (.aload_n 0, 1) := by decide +kernel
theorem dX3_measureThings_14 : decode cX3_measureThings 14 = .ok (.dup, 1) := by decide +kernel
theorem dX3_measureThings_15 : decode cX3_measureThings 15 = .ok (.getfield 9, 3) := by decide +kernel
theorem dX3_measureThings_18 : decode cX3_measureThings 18 = .ok (.aload_n 0, 1) := by decide +kernel
theorem dX3_measureThings_19 : decode cX3_measureThings 19 = .ok (.getfield 25, 3) := by decide +kernel
theorem dX3_measureThings_22 : decode cX3_measureThings 22 = .ok (.aload_n 1, 1) := by decide +kernel
theorem dX3_measureThings_23 : decode cX3_measureThings 23 = .ok (.getfield 9, 3) := by decide +kernel
theorem dX3_measureThings_26 : decode cX3_measureThings 26 = .ok (.imul, 1) := by decide +kernel
theorem dX3_measureThings_27 : decode cX3_measureThings 27 = .ok (.iadd, 1) := by decide +kernel
theorem dX3_measureThings_28 : decode cX3_measureThings 28 = .ok (.putfield 9, 3) := by decide +kernel
theorem dX3_measureThings_31 : decode cX3_measureThings 31 = .ok (.aload_n 0, 1) := by decide +kernel
theorem dX3_measureThings_32 : decode cX3_measureThings 32 = .ok (.dup, 1) := by decide +kernel
theorem dX3_measureThings_33 : decode cX3_measureThings 33 = .ok (.getfield 15, 3) := by decide +kernel
theorem dX3_measureThings_36 : decode cX3_measureThings 36 = .ok (.aload_n 0, 1) := by decide +kernel
theorem dX3_measureThings_37 : decode cX3_measureThings 37 = .ok (.getfield 28, 3) := by decide +kernel
theorem dX3_measureThings_40 : decode cX3_measureThings 40 = .ok (.aload_n 1, 1) := by decide +kernel
theorem dX3_measureThings_41 : decode cX3_measureThings 41 = .ok (.getfield 15, 3) := by decide +kernel
theorem dX3_measureThings_44 : decode cX3_measureThings 44 = .ok (.imul, 1) := by decide +kernel
theorem dX3_measureThings_45 : decode cX3_measureThings 45 = .ok (.iadd, 1) := by decide +kernel
theorem dX3_measureThings_46 : decode cX3_measureThings 46 = .ok (.putfield 15, 3) := by decide +kernel
theorem dX3_measureThings_49 : decode cX3_measureThings 49 = .ok (.aload_n 0, 1) := by decide +kernel
theorem dX3_measureThings_50 : decode cX3_measureThings 50 = .ok (.dup, 1) := by decide +kernel
theorem dX3_measureThings_51 : decode cX3_measureThings 51 = .ok (.getfield 18, 3) := by decide +kernel
theorem dX3_measureThings_54 : decode cX3_measureThings 54 = .ok (.aload_n 0, 1) := by decide +kernel
theorem dX3_measureThings_55 : decode cX3_measureThings 55 = .ok (.getfield 28, 3) := by decide +kernel
theorem dX3_measureThings_58 : decode cX3_measureThings 58 = .ok (.aload_n 1, 1) := by decide +kernel
theorem dX3_measureThings_59 : decode cX3_measureThings 59 = .ok (.getfield 18, 3) := by decide +kernel
theorem dX3_measureThings_62 : decode cX3_measureThings 62 = .ok (.imul, 1) := by decide +kernel
theorem dX3_measureThings_63 : decode cX3_measureThings 63 = .ok (.iadd, 1) := by decide +kernel
theorem dX3_measureThings_64 : decode cX3_measureThings 64 = .ok (.putfield 18, 3) := by decide +kernel
theorem dX3_measureThings_67 : decode cX3_measureThings 67 = .ok (.return_, 1) := by decide +kernel
def wp_X3_measureThings (o : Nat) (μ : Mm) (post : Mm → Prop) : Prop := ∃ f1 g2, μ o = some (.inl (2, f1)) ∧ f1[4]? = some (.ref g2) ∧ (∃ f61, μ g2 = some (.inl (3, f61))) ∧ wp_X4_at g2 (0 : Int32) μ (fun r5 μ6 => (r5 = none → (post μ6)) ∧ (∀ a8, r5 = some a8 → (∃ f9 g10, μ6 o = some (.inl (2, f9)) ∧ f9[7]? = some (.int g10) ∧ ∃ f13 g14, μ6 o = some (.inl (2, f13)) ∧ f13[1]? = some (.int g14) ∧ ∃ f17 g18, μ6 a8 = some (.inl (2, f17)) ∧ f17[7]? = some (.int g18) ∧ ∃ f21, μ6 o = some (.inl (2, f21)) ∧ 7 < f21.length ∧ ∀ μ24, μ24 = ups μ6 o (.inl (2, f21.set 7 (.int (g10 + (g14 * g18))))) → ∃ f26 g27, μ24 o = some (.inl (2, f26)) ∧ f26[8]? = some (.int g27) ∧ ∃ f30 g31, μ24 o = some (.inl (2, f30)) ∧ f30[2]? = some (.int g31) ∧ ∃ f34 g35, μ24 a8 = some (.inl (2, f34)) ∧ f34[8]? = some (.int g35) ∧ ∃ f38, μ24 o = some (.inl (2, f38)) ∧ 8 < f38.length ∧ ∀ μ41, μ41 = ups μ24 o (.inl (2, f38.set 8 (.int (g27 + (g31 * g35))))) → ∃ f43 g44, μ41 o = some (.inl (2, f43)) ∧ f43[9]? = some (.int g44) ∧ ∃ f47 g48, μ41 o = some (.inl (2, f47)) ∧ f47[2]? = some (.int g48) ∧ ∃ f51 g52, μ41 a8 = some (.inl (2, f51)) ∧ f51[9]? = some (.int g52) ∧ ∃ f55, μ41 o = some (.inl (2, f55)) ∧ 9 < f55.length ∧ ∀ μ58, μ58 = ups μ41 o (.inl (2, f55.set 9 (.int (g44 + (g48 * g52))))) → post μ58)))
set_option maxHeartbeats 4000000 in
set_option maxRecDepth 100000 in
theorem c_X3_measureThings (l : Launch) (G : gG) (A : Nat → Prop) (o : Nat) (μ : Mm) (post : Mm → Prop) (h : wp_X3_measureThings o μ post) : Met l yX3_measureThings (.code yX3_measureThings cX3_measureThings 2 none :: wsA) (rmL (1) 0 0) (PcG G A μ [.ref o]) (QG G A (pV post)) 0 0 A := by
  refine met_J (loc := [(0, .ref o)]) (by decide +kernel) (Nat.le_of_ble_eq_true rfl) rfl ?_
  intro p e s m args below meth c X hin
  have X : Cx p l s m args meth c cX3_measureThings 2 none RX3 G A := X
  have hw := h
  unfold wp_X3_measureThings at hw
  refine j_aload_n X (pc' := 1) (kk := 0) (i := 0) 0 rfl rfl dX3_measureThings_0 rfl ?_
  obtain ⟨f1, g2, hm3, hv4, hw1⟩ := hw
  refine j_getf X (pc' := 4) hm3 4 hv4 rfl fw_TX3 (by decide) wt_2_12 dX3_measureThings_1 rfl ?_
  refine j_iconst X (pc' := 5) (v := 0) (by decide) dX3_measureThings_4 rfl ?_
  obtain ⟨⟨f61, hm60⟩, hw2⟩ := hw1
  refine j_callVq (As := [.int (0 : Int32)]) (rest := []) X (pc' := 8) (cells' := 0) (slots' := 0) (c_X4_at l G A g2 (0 : Int32) μ _ hw2) (gk_X4_at wt_2_64) hd_X4_at (rmL_fit (k1 := 0) (k := 1) (by omega) (by decide)) hm60 rfl rfl rfl (Nat.le_of_ble_eq_true rfl) dX3_measureThings_5 rfl ⟨Nat.le_of_ble_eq_true rfl, Nat.le_of_ble_eq_true rfl⟩ rfl rfl (fun r5 μ6 hw3 => ?_)
  refine j_astore_nq X (pc' := 9) (kk := 1) (i := 1) (x := r5) (loc' := [(1, va_rf r5), (0, .ref o)]) dX3_measureThings_8 rfl rfl (by decide) rfl ?_
  refine j_aload_nq X (pc' := 10) (kk := 1) (i := 1) (x := r5) 0 rfl rfl dX3_measureThings_9 rfl ?_
  refine j_ifnull X (pc' := 13) (x := r5) (tgt := 67) dX3_measureThings_10 rfl (by decide) (fun c7 => ?_) (fun a8 c7 => ?_)
  · have hw4 := hw3.1 c7
    exact j_vret X ⟨rfl, hw4⟩ (Nat.le_of_ble_eq_true rfl) (Nat.le_of_ble_eq_true rfl) dX3_measureThings_67
  · have hw5 := hw3.2 a8 c7
    subst c7
    refine j_aload_n X (pc' := 14) (kk := 0) (i := 0) 1 rfl rfl dX3_measureThings_13 rfl ?_
    refine j_dup X (pc' := 15) rfl dX3_measureThings_14 rfl ?_
    obtain ⟨f9, g10, hm11, hv12, hw6⟩ := hw5
    refine j_getf X (pc' := 18) hm11 7 hv12 rfl fw_TX3 (by decide) wt_2_20 dX3_measureThings_15 rfl ?_
    refine j_aload_n X (pc' := 19) (kk := 0) (i := 0) 1 rfl rfl dX3_measureThings_18 rfl ?_
    obtain ⟨f13, g14, hm15, hv16, hw7⟩ := hw6
    refine j_getf X (pc' := 22) hm15 1 hv16 rfl fw_TX3 (by decide) wt_2_3 dX3_measureThings_19 rfl ?_
    refine j_aload_n X (pc' := 23) (kk := 1) (i := 1) 0 rfl rfl dX3_measureThings_22 rfl ?_
    obtain ⟨f17, g18, hm19, hv20, hw8⟩ := hw7
    refine j_getf X (pc' := 26) hm19 7 hv20 rfl fw_TX3 (by decide) wt_2_20 dX3_measureThings_23 rfl ?_
    refine j_imul X (pc' := 27) dX3_measureThings_26 rfl ?_
    refine j_iadd X (pc' := 28) dX3_measureThings_27 rfl ?_
    obtain ⟨f21, hm22, hl23, hw9⟩ := hw8
    refine jp_putf X (pc' := 31) (ty := .int) hm22 7 hl23 rfl fw_TX3 tyX3_ok nmX3 (by decide) rfl wt_2_20 (by decide +kernel) rfl rfl dX3_measureThings_28 rfl (fun μ24 e25 => ?_)
    have hw10 := hw9 μ24 e25
    refine j_aload_n X (pc' := 32) (kk := 0) (i := 0) 1 rfl rfl dX3_measureThings_31 rfl ?_
    refine j_dup X (pc' := 33) rfl dX3_measureThings_32 rfl ?_
    obtain ⟨f26, g27, hm28, hv29, hw11⟩ := hw10
    refine j_getf X (pc' := 36) hm28 8 hv29 rfl fw_TX3 (by decide) wt_2_22 dX3_measureThings_33 rfl ?_
    refine j_aload_n X (pc' := 37) (kk := 0) (i := 0) 1 rfl rfl dX3_measureThings_36 rfl ?_
    obtain ⟨f30, g31, hm32, hv33, hw12⟩ := hw11
    refine j_getf X (pc' := 40) hm32 2 hv33 rfl fw_TX3 (by decide) wt_2_6 dX3_measureThings_37 rfl ?_
    refine j_aload_n X (pc' := 41) (kk := 1) (i := 1) 0 rfl rfl dX3_measureThings_40 rfl ?_
    obtain ⟨f34, g35, hm36, hv37, hw13⟩ := hw12
    refine j_getf X (pc' := 44) hm36 8 hv37 rfl fw_TX3 (by decide) wt_2_22 dX3_measureThings_41 rfl ?_
    refine j_imul X (pc' := 45) dX3_measureThings_44 rfl ?_
    refine j_iadd X (pc' := 46) dX3_measureThings_45 rfl ?_
    obtain ⟨f38, hm39, hl40, hw14⟩ := hw13
    refine jp_putf X (pc' := 49) (ty := .int) hm39 8 hl40 rfl fw_TX3 tyX3_ok nmX3 (by decide) rfl wt_2_22 (by decide +kernel) rfl rfl dX3_measureThings_46 rfl (fun μ41 e42 => ?_)
    have hw15 := hw14 μ41 e42
    refine j_aload_n X (pc' := 50) (kk := 0) (i := 0) 1 rfl rfl dX3_measureThings_49 rfl ?_
    refine j_dup X (pc' := 51) rfl dX3_measureThings_50 rfl ?_
    obtain ⟨f43, g44, hm45, hv46, hw16⟩ := hw15
    refine j_getf X (pc' := 54) hm45 9 hv46 rfl fw_TX3 (by decide) wt_2_24 dX3_measureThings_51 rfl ?_
    refine j_aload_n X (pc' := 55) (kk := 0) (i := 0) 1 rfl rfl dX3_measureThings_54 rfl ?_
    obtain ⟨f47, g48, hm49, hv50, hw17⟩ := hw16
    refine j_getf X (pc' := 58) hm49 2 hv50 rfl fw_TX3 (by decide) wt_2_6 dX3_measureThings_55 rfl ?_
    refine j_aload_n X (pc' := 59) (kk := 1) (i := 1) 0 rfl rfl dX3_measureThings_58 rfl ?_
    obtain ⟨f51, g52, hm53, hv54, hw18⟩ := hw17
    refine j_getf X (pc' := 62) hm53 9 hv54 rfl fw_TX3 (by decide) wt_2_24 dX3_measureThings_59 rfl ?_
    refine j_imul X (pc' := 63) dX3_measureThings_62 rfl ?_
    refine j_iadd X (pc' := 64) dX3_measureThings_63 rfl ?_
    obtain ⟨f55, hm56, hl57, hw19⟩ := hw18
    refine jp_putf X (pc' := 67) (ty := .int) hm56 9 hl57 rfl fw_TX3 tyX3_ok nmX3 (by decide) rfl wt_2_24 (by decide +kernel) rfl rfl dX3_measureThings_64 rfl (fun μ58 e59 => ?_)
    have hw20 := hw19 μ58 e59
    exact j_vret X ⟨rfl, hw20⟩ (Nat.le_of_ble_eq_true rfl) (Nat.le_of_ble_eq_true rfl) dX3_measureThings_67
/-! BitNotation$Type.measureChoices()V -/
theorem dX3_measureChoices_0 : decode cX3_measureChoices 0 = .ok (.sipush 240, 3) := by decide +kernel
theorem dX3_measureChoices_3 : decode cX3_measureChoices 3 = .ok (.istore_n 1, 1) := by decide +kernel
theorem dX3_measureChoices_4 : decode cX3_measureChoices 4 = .ok (.iconst 0, 1) := by decide +kernel
theorem dX3_measureChoices_5 : decode cX3_measureChoices 5 = .ok (.istore_n 2, 1) := by decide +kernel
theorem dX3_measureChoices_6 : decode cX3_measureChoices 6 = .ok (.iconst 0, 1) := by decide +kernel
theorem dX3_measureChoices_7 : decode cX3_measureChoices 7 = .ok (.istore_n 3, 1) := by decide +kernel
theorem dX3_measureChoices_8 : decode cX3_measureChoices 8 = .ok (.iconst 0, 1) := by decide +kernel
theorem dX3_measureChoices_9 : decode cX3_measureChoices 9 = .ok (.istore 4, 2) := by decide +kernel
theorem dX3_measureChoices_11 : decode cX3_measureChoices 11 = .ok (.iload 4, 2) := by decide +kernel
theorem dX3_measureChoices_13 : decode cX3_measureChoices 13 = .ok (.aload_n 0, 1) := by decide +kernel
theorem dX3_measureChoices_14 : decode cX3_measureChoices 14 = .ok (.getfield 38, 3) := by decide +kernel
theorem dX3_measureChoices_17 : decode cX3_measureChoices 17 = .ok (.invokevirtual 80, 3) := by decide +kernel
theorem dX3_measureChoices_20 : decode cX3_measureChoices 20 = .ok (.if_icmp .ge 55, 3) := by decide +kernel
theorem dX3_measureChoices_23 : decode cX3_measureChoices 23 = .ok (.aload_n 0, 1) := by decide +kernel
theorem dX3_measureChoices_24 : decode cX3_measureChoices 24 = .ok (.getfield 38, 3) := by decide +kernel
theorem dX3_measureChoices_27 : decode cX3_measureChoices 27 = .ok (.iload 4, 2) := by decide +kernel
theorem dX3_measureChoices_29 : decode cX3_measureChoices 29 = .ok (.invokevirtual 76, 3) := by decide +kernel
theorem dX3_measureChoices_32 : decode cX3_measureChoices 32 = .ok (.astore 5, 2) := by decide +kernel
theorem dX3_measureChoices_34 : decode cX3_measureChoices 34 = .ok (.aload 5, 2) := by decide +kernel
theorem dX3_measureChoices_36 : decode cX3_measureChoices 36 = .ok (.ifnull 33, 3) := by decide +kernel
theorem dX3_measureChoices_39 : decode cX3_measureChoices 39 = .ok (.iload_n 1, 1) := by decide +kernel
theorem dX3_measureChoices_40 : decode cX3_measureChoices 40 = .ok (.aload 5, 2) := by decide +kernel
theorem dX3_measureChoices_42 : decode cX3_measureChoices 42 = .ok (.getfield 9, 3) := by decide +kernel
theorem dX3_measureChoices_45 : decode cX3_measureChoices 45 = .ok (.invokestatic 84, 3) := by decide +kernel
theorem dX3_measureChoices_48 : decode cX3_measureChoices 48 = .ok (.istore_n 1, 1) := by decide +kernel
theorem dX3_measureChoices_49 : decode cX3_measureChoices 49 = .ok (.iload_n 2, 1) := by decide +kernel
theorem dX3_measureChoices_50 : decode cX3_measureChoices 50 = .ok (.aload 5, 2) := by decide +kernel
theorem dX3_measureChoices_52 : decode cX3_measureChoices 52 = .ok (.getfield 15, 3) := by decide +kernel
theorem dX3_measureChoices_55 : decode cX3_measureChoices 55 = .ok (.invokestatic 90, 3) := by decide +kernel
theorem dX3_measureChoices_58 : decode cX3_measureChoices 58 = .ok (.istore_n 2, 1) := by decide +kernel
theorem dX3_measureChoices_59 : decode cX3_measureChoices 59 = .ok (.iload_n 3, 1) := by decide +kernel
theorem dX3_measureChoices_60 : decode cX3_measureChoices 60 = .ok (.aload 5, 2) := by decide +kernel
theorem dX3_measureChoices_62 : decode cX3_measureChoices 62 = .ok (.getfield 18, 3) := by decide +kernel
theorem dX3_measureChoices_65 : decode cX3_measureChoices 65 = .ok (.invokestatic 90, 3) := by decide +kernel
theorem dX3_measureChoices_68 : decode cX3_measureChoices 68 = .ok (.istore_n 3, 1) := by decide +kernel
theorem dX3_measureChoices_69 : decode cX3_measureChoices 69 = .ok (.iinc 4 1, 3) := by decide +kernel
theorem dX3_measureChoices_72 : decode cX3_measureChoices 72 = .ok (.goto (-61), 3) := by decide +kernel
theorem dX3_measureChoices_75 : decode cX3_measureChoices 75 = .ok (.aload_n 0, 1) := by decide +kernel
theorem dX3_measureChoices_76 : decode cX3_measureChoices 76 = .ok (.dup, 1) := by decide +kernel
theorem dX3_measureChoices_77 : decode cX3_measureChoices 77 = .ok (.getfield 9, 3) := by decide +kernel
theorem dX3_measureChoices_80 : decode cX3_measureChoices 80 = .ok (.iload_n 1, 1) := by decide +kernel
theorem dX3_measureChoices_81 : decode cX3_measureChoices 81 = .ok (.iadd, 1) := by decide +kernel
theorem dX3_measureChoices_82 : decode cX3_measureChoices 82 = .ok (.putfield 9, 3) := by decide +kernel
theorem dX3_measureChoices_85 : decode cX3_measureChoices 85 = .ok (.aload_n 0, 1) := by decide +kernel
theorem dX3_measureChoices_86 : decode cX3_measureChoices 86 = .ok (.dup, 1) := by decide +kernel
theorem dX3_measureChoices_87 : decode cX3_measureChoices 87 = .ok (.getfield 15, 3) := by decide +kernel
theorem dX3_measureChoices_90 : decode cX3_measureChoices 90 = .ok (.iload_n 2, 1) := by decide +kernel
theorem dX3_measureChoices_91 : decode cX3_measureChoices 91 = .ok (.iadd, 1) := by decide +kernel
theorem dX3_measureChoices_92 : decode cX3_measureChoices 92 = .ok (.putfield 15, 3) := by decide +kernel
theorem dX3_measureChoices_95 : decode cX3_measureChoices 95 = .ok (.aload_n 0, 1) := by decide +kernel
theorem dX3_measureChoices_96 : decode cX3_measureChoices 96 = .ok (.dup, 1) := by decide +kernel
theorem dX3_measureChoices_97 : decode cX3_measureChoices 97 = .ok (.getfield 18, 3) := by decide +kernel
theorem dX3_measureChoices_100 : decode cX3_measureChoices 100 = .ok (.iload_n 3, 1) := by decide +kernel
theorem dX3_measureChoices_101 : decode cX3_measureChoices 101 = .ok (.iadd, 1) := by decide +kernel
theorem dX3_measureChoices_102 : decode cX3_measureChoices 102 = .ok (.putfield 18, 3) := by decide +kernel
theorem dX3_measureChoices_105 : decode cX3_measureChoices 105 = .ok (.return_, 1) := by decide +kernel
def wb_X3_measureChoices_11 (o : Nat) (post : Mm → Prop)  : Nat → Int32 → Int32 → Int32 → Int32 → Mm → Prop
  | 0 => fun _ _ _ _ _ => False
  | n + 1 => fun v1 v2 v3 v4 μ => ∃ f1 g2, μ o = some (.inl (2, f1)) ∧ f1[4]? = some (.ref g2) ∧ (∃ f58, μ g2 = some (.inl (3, f58))) ∧ wp_X4_size g2 μ (fun r5 μ6 => (r5 ≤ v4 → (∃ f8 g9, μ6 o = some (.inl (2, f8)) ∧ f8[7]? = some (.int g9) ∧ ∃ f12, μ6 o = some (.inl (2, f12)) ∧ 7 < f12.length ∧ ∀ μ15, μ15 = ups μ6 o (.inl (2, f12.set 7 (.int (g9 + v1)))) → ∃ f17 g18, μ15 o = some (.inl (2, f17)) ∧ f17[8]? = some (.int g18) ∧ ∃ f21, μ15 o = some (.inl (2, f21)) ∧ 8 < f21.length ∧ ∀ μ24, μ24 = ups μ15 o (.inl (2, f21.set 8 (.int (g18 + v2)))) → ∃ f26 g27, μ24 o = some (.inl (2, f26)) ∧ f26[9]? = some (.int g27) ∧ ∃ f30, μ24 o = some (.inl (2, f30)) ∧ 9 < f30.length ∧ ∀ μ33, μ33 = ups μ24 o (.inl (2, f30.set 9 (.int (g27 + v3)))) → post μ33)) ∧ (¬ r5 ≤ v4 → (∃ f35 g36, μ6 o = some (.inl (2, f35)) ∧ f35[4]? = some (.ref g36) ∧ (∃ f56, μ6 g36 = some (.inl (3, f56))) ∧ wp_X4_at g36 v4 μ6 (fun r39 μ40 => (r39 = none → (wb_X3_measureChoices_11 o post n v1 v2 v3 (v4 + 1) μ40)) ∧ (∀ a42, r39 = some a42 → (∃ f43 g44, μ40 a42 = some (.inl (2, f43)) ∧ f43[7]? = some (.int g44) ∧ ∃ f47 g48, μ40 a42 = some (.inl (2, f47)) ∧ f47[8]? = some (.int g48) ∧ ∃ f51 g52, μ40 a42 = some (.inl (2, f51)) ∧ f51[9]? = some (.int g52) ∧ wb_X3_measureChoices_11 o post n (if g44 < v1 then g44 else v1) (if v2 < g48 then g48 else v2) (if v3 < g52 then g52 else v3) (v4 + 1) μ40))))))
set_option maxHeartbeats 4000000 in
set_option maxRecDepth 100000 in
theorem tb_X3_measureChoices_11 {p : Program} {l : Launch} {e : Env} {s : State} {m : MethodId} {args : Array Value} {below : List Frame} {meth : Method} {c : Code} {G : gG} {A : Nat → Prop} {o : Nat} {post : Mm → Prop} (X : Cx p l s m args meth c cX3_measureChoices 6 none RX3 G A) : ∀ (n : Nat) (v1 : Int32) (v2 : Int32) (v3 : Int32) (v4 : Int32) (μ : Mm), wb_X3_measureChoices_11 o post n v1 v2 v3 v4 μ → J p l e (rmL (1) 0 0) s m args below meth c 6 G A (MQ below (QG G A (pV post)) args s 0 0 A) 0 0 11 [(0, .ref o), (1, .int v1), (2, .int v2), (3, .int v3), (4, .int v4)] [] μ := by
  intro n
  induction n with
  | zero => intro v1 v2 v3 v4 μ hw; exact hw.elim
  | succ n ih =>
    intro v1 v2 v3 v4 μ hw
    rw [wb_X3_measureChoices_11] at hw
    refine j_iload X (pc' := 13) (i := 4) 4 rfl dX3_measureChoices_11 rfl ?_
    refine j_aload_n X (pc' := 14) (kk := 0) (i := 0) 0 rfl rfl dX3_measureChoices_13 rfl ?_
    obtain ⟨f1, g2, hm3, hv4, hw1⟩ := hw
    refine j_getf X (pc' := 17) hm3 4 hv4 rfl fw_TX3 (by decide) wt_2_12 dX3_measureChoices_14 rfl ?_
    obtain ⟨⟨f58, hm57⟩, hw2⟩ := hw1
    refine j_callVi (As := []) (rest := [.int v4]) X (pc' := 20) (cells' := 0) (slots' := 0) (c_X4_size l G A g2 μ _ hw2) (gk_X4_size wt_2_74) hd_X4_size (rmL_fit (k1 := 0) (k := 1) (by omega) (by decide)) hm57 rfl rfl rfl (Nat.le_of_ble_eq_true rfl) dX3_measureChoices_17 rfl ⟨Nat.le_of_ble_eq_true rfl, Nat.le_of_ble_eq_true rfl⟩ rfl rfl (fun r5 μ6 hw3 => ?_)
    refine j_icmp_ge X (pc' := 23) (tgt := 75) dX3_measureChoices_20 rfl (by decide) (fun c7 => ?_) (fun c7 => ?_)
    · have hw4 := hw3.1 c7
      refine j_aload_n X (pc' := 76) (kk := 0) (i := 0) 0 rfl rfl dX3_measureChoices_75 rfl ?_
      refine j_dup X (pc' := 77) rfl dX3_measureChoices_76 rfl ?_
      obtain ⟨f8, g9, hm10, hv11, hw5⟩ := hw4
      refine j_getf X (pc' := 80) hm10 7 hv11 rfl fw_TX3 (by decide) wt_2_20 dX3_measureChoices_77 rfl ?_
      refine j_iload_n X (pc' := 81) (kk := 1) (i := 1) 1 rfl rfl dX3_measureChoices_80 rfl ?_
      refine j_iadd X (pc' := 82) dX3_measureChoices_81 rfl ?_
      obtain ⟨f12, hm13, hl14, hw6⟩ := hw5
      refine jp_putf X (pc' := 85) (ty := .int) hm13 7 hl14 rfl fw_TX3 tyX3_ok nmX3 (by decide) rfl wt_2_20 (by decide +kernel) rfl rfl dX3_measureChoices_82 rfl (fun μ15 e16 => ?_)
      have hw7 := hw6 μ15 e16
      refine j_aload_n X (pc' := 86) (kk := 0) (i := 0) 0 rfl rfl dX3_measureChoices_85 rfl ?_
      refine j_dup X (pc' := 87) rfl dX3_measureChoices_86 rfl ?_
      obtain ⟨f17, g18, hm19, hv20, hw8⟩ := hw7
      refine j_getf X (pc' := 90) hm19 8 hv20 rfl fw_TX3 (by decide) wt_2_22 dX3_measureChoices_87 rfl ?_
      refine j_iload_n X (pc' := 91) (kk := 2) (i := 2) 2 rfl rfl dX3_measureChoices_90 rfl ?_
      refine j_iadd X (pc' := 92) dX3_measureChoices_91 rfl ?_
      obtain ⟨f21, hm22, hl23, hw9⟩ := hw8
      refine jp_putf X (pc' := 95) (ty := .int) hm22 8 hl23 rfl fw_TX3 tyX3_ok nmX3 (by decide) rfl wt_2_22 (by decide +kernel) rfl rfl dX3_measureChoices_92 rfl (fun μ24 e25 => ?_)
      have hw10 := hw9 μ24 e25
      refine j_aload_n X (pc' := 96) (kk := 0) (i := 0) 0 rfl rfl dX3_measureChoices_95 rfl ?_
      refine j_dup X (pc' := 97) rfl dX3_measureChoices_96 rfl ?_
      obtain ⟨f26, g27, hm28, hv29, hw11⟩ := hw10
      refine j_getf X (pc' := 100) hm28 9 hv29 rfl fw_TX3 (by decide) wt_2_24 dX3_measureChoices_97 rfl ?_
      refine j_iload_n X (pc' := 101) (kk := 3) (i := 3) 3 rfl rfl dX3_measureChoices_100 rfl ?_
      refine j_iadd X (pc' := 102) dX3_measureChoices_101 rfl ?_
      obtain ⟨f30, hm31, hl32, hw12⟩ := hw11
      refine jp_putf X (pc' := 105) (ty := .int) hm31 9 hl32 rfl fw_TX3 tyX3_ok nmX3 (by decide) rfl wt_2_24 (by decide +kernel) rfl rfl dX3_measureChoices_102 rfl (fun μ33 e34 => ?_)
      have hw13 := hw12 μ33 e34
      exact j_vret X ⟨rfl, hw13⟩ (Nat.le_of_ble_eq_true rfl) (Nat.le_of_ble_eq_true rfl) dX3_measureChoices_105
    · have hw14 := hw3.2 c7
      refine j_aload_n X (pc' := 24) (kk := 0) (i := 0) 0 rfl rfl dX3_measureChoices_23 rfl ?_
      obtain ⟨f35, g36, hm37, hv38, hw15⟩ := hw14
      refine j_getf X (pc' := 27) hm37 4 hv38 rfl fw_TX3 (by decide) wt_2_12 dX3_measureChoices_24 rfl ?_
      refine j_iload X (pc' := 29) (i := 4) 4 rfl dX3_measureChoices_27 rfl ?_
      obtain ⟨⟨f56, hm55⟩, hw16⟩ := hw15
      refine j_callVq (As := [.int v4]) (rest := []) X (pc' := 32) (cells' := 0) (slots' := 0) (c_X4_at l G A g36 v4 μ6 _ hw16) (gk_X4_at wt_2_64) hd_X4_at (rmL_fit (k1 := 0) (k := 1) (by omega) (by decide)) hm55 rfl rfl rfl (Nat.le_of_ble_eq_true rfl) dX3_measureChoices_29 rfl ⟨Nat.le_of_ble_eq_true rfl, Nat.le_of_ble_eq_true rfl⟩ rfl rfl (fun r39 μ40 hw17 => ?_)
      refine j_astore_q X (pc' := 34) (i := 5) (x := r39) (loc' := [(5, va_rf r39), (0, .ref o), (1, .int v1), (2, .int v2), (3, .int v3), (4, .int v4)]) dX3_measureChoices_32 rfl (by decide) rfl ?_
      refine j_aload_q X (pc' := 36) (i := 5) (x := r39) 0 rfl dX3_measureChoices_34 rfl ?_
      refine j_ifnull X (pc' := 39) (x := r39) (tgt := 69) dX3_measureChoices_36 rfl (by decide) (fun c41 => ?_) (fun a42 c41 => ?_)
      · have hw18 := hw17.1 c41
        refine j_iinc X (pc' := 72) (i := 4) (v := v4 + 1) (loc' := [(4, .int (v4 + 1)), (5, va_rf r39), (0, .ref o), (1, .int v1), (2, .int v2), (3, .int v3)]) 5 rfl rfl dX3_measureChoices_69 rfl (by decide) rfl ?_
        refine j_goto X (tgt := 11) dX3_measureChoices_72 (by decide) ?_
        refine j_loc [2, 3, 4, 5, 0] rfl ?_
        exact ih _ _ _ _ _ hw18
      · have hw19 := hw17.2 a42 c41
        subst c41
        refine j_iload_n X (pc' := 40) (kk := 1) (i := 1) 2 rfl rfl dX3_measureChoices_39 rfl ?_
        refine j_aload X (pc' := 42) (i := 5) 0 rfl dX3_measureChoices_40 rfl ?_
        obtain ⟨f43, g44, hm45, hv46, hw20⟩ := hw19
        refine j_getf X (pc' := 45) hm45 7 hv46 rfl fw_TX3 (by decide) wt_2_20 dX3_measureChoices_42 rfl ?_
        refine j_min X (pc' := 48) wt_2_75 wt_2_76 wt_1_3 wt_2_77 (by show 1 ≤ _ + 6; omega) (Nat.le_trans (m := 120) (Nat.le_of_ble_eq_true rfl) (by show 120 ≤ 40 * _ + 120; omega)) (Nat.le_of_ble_eq_true rfl) (Nat.le_of_ble_eq_true rfl) dX3_measureChoices_45 rfl ?_
        refine j_istore_n X (pc' := 49) (kk := 1) (i := 1) (loc' := [(1, .int (if g44 < v1 then g44 else v1)), (5, .ref a42), (0, .ref o), (2, .int v2), (3, .int v3), (4, .int v4)]) dX3_measureChoices_48 rfl rfl (by decide) rfl ?_
        refine j_iload_n X (pc' := 50) (kk := 2) (i := 2) 3 rfl rfl dX3_measureChoices_49 rfl ?_
        refine j_aload X (pc' := 52) (i := 5) 1 rfl dX3_measureChoices_50 rfl ?_
        obtain ⟨f47, g48, hm49, hv50, hw21⟩ := hw20
        refine j_getf X (pc' := 55) hm49 8 hv50 rfl fw_TX3 (by decide) wt_2_22 dX3_measureChoices_52 rfl ?_
        refine j_max X (pc' := 58) wt_2_78 wt_1_31 wt_1_3 wt_1_32 (by show 1 ≤ _ + 6; omega) (Nat.le_trans (m := 120) (Nat.le_of_ble_eq_true rfl) (by show 120 ≤ 40 * _ + 120; omega)) (Nat.le_of_ble_eq_true rfl) (Nat.le_of_ble_eq_true rfl) dX3_measureChoices_55 rfl ?_
        refine j_istore_n X (pc' := 59) (kk := 2) (i := 2) (loc' := [(2, .int (if v2 < g48 then g48 else v2)), (1, .int (if g44 < v1 then g44 else v1)), (5, .ref a42), (0, .ref o), (3, .int v3), (4, .int v4)]) dX3_measureChoices_58 rfl rfl (by decide) rfl ?_
        refine j_iload_n X (pc' := 60) (kk := 3) (i := 3) 4 rfl rfl dX3_measureChoices_59 rfl ?_
        refine j_aload X (pc' := 62) (i := 5) 2 rfl dX3_measureChoices_60 rfl ?_
        obtain ⟨f51, g52, hm53, hv54, hw22⟩ := hw21
        refine j_getf X (pc' := 65) hm53 9 hv54 rfl fw_TX3 (by decide) wt_2_24 dX3_measureChoices_62 rfl ?_
        refine j_max X (pc' := 68) wt_2_78 wt_1_31 wt_1_3 wt_1_32 (by show 1 ≤ _ + 6; omega) (Nat.le_trans (m := 120) (Nat.le_of_ble_eq_true rfl) (by show 120 ≤ 40 * _ + 120; omega)) (Nat.le_of_ble_eq_true rfl) (Nat.le_of_ble_eq_true rfl) dX3_measureChoices_65 rfl ?_
        refine j_istore_n X (pc' := 69) (kk := 3) (i := 3) (loc' := [(3, .int (if v3 < g52 then g52 else v3)), (2, .int (if v2 < g48 then g48 else v2)), (1, .int (if g44 < v1 then g44 else v1)), (5, .ref a42), (0, .ref o), (4, .int v4)]) dX3_measureChoices_68 rfl rfl (by decide) rfl ?_
        refine j_iinc X (pc' := 72) (i := 4) (v := v4 + 1) (loc' := [(4, .int (v4 + 1)), (3, .int (if v3 < g52 then g52 else v3)), (2, .int (if v2 < g48 then g48 else v2)), (1, .int (if g44 < v1 then g44 else v1)), (5, .ref a42), (0, .ref o)]) 5 rfl rfl dX3_measureChoices_69 rfl (by decide) rfl ?_
        refine j_goto X (tgt := 11) dX3_measureChoices_72 (by decide) ?_
        refine j_loc [5, 3, 2, 1, 0] rfl ?_
        exact ih _ _ _ _ _ hw22
def wp_X3_measureChoices (o : Nat) (μ : Mm) (post : Mm → Prop) : Prop := ∃ n, wb_X3_measureChoices_11 o post n (240 : Int32) (0 : Int32) (0 : Int32) (0 : Int32) μ
set_option maxHeartbeats 4000000 in
set_option maxRecDepth 100000 in
theorem c_X3_measureChoices (l : Launch) (G : gG) (A : Nat → Prop) (o : Nat) (μ : Mm) (post : Mm → Prop) (h : wp_X3_measureChoices o μ post) : Met l yX3_measureChoices (.code yX3_measureChoices cX3_measureChoices 6 none :: wsA) (rmL (1) 0 0) (PcG G A μ [.ref o]) (QG G A (pV post)) 0 0 A := by
  refine met_J (loc := [(0, .ref o)]) (by decide +kernel) (Nat.le_of_ble_eq_true rfl) rfl ?_
  intro p e s m args below meth c X hin
  have X : Cx p l s m args meth c cX3_measureChoices 6 none RX3 G A := X
  have hw := h
  unfold wp_X3_measureChoices at hw
  refine j_sipush X (pc' := 3) (v := 240) (by decide) dX3_measureChoices_0 rfl ?_
  refine j_istore_n X (pc' := 4) (kk := 1) (i := 1) (loc' := [(1, .int ((240 : Int32))), (0, .ref o)]) dX3_measureChoices_3 rfl rfl (by decide) rfl ?_
  refine j_iconst X (pc' := 5) (v := 0) (by decide) dX3_measureChoices_4 rfl ?_
  refine j_istore_n X (pc' := 6) (kk := 2) (i := 2) (loc' := [(2, .int ((0 : Int32))), (1, .int ((240 : Int32))), (0, .ref o)]) dX3_measureChoices_5 rfl rfl (by decide) rfl ?_
  refine j_iconst X (pc' := 7) (v := 0) (by decide) dX3_measureChoices_6 rfl ?_
  refine j_istore_n X (pc' := 8) (kk := 3) (i := 3) (loc' := [(3, .int ((0 : Int32))), (2, .int ((0 : Int32))), (1, .int ((240 : Int32))), (0, .ref o)]) dX3_measureChoices_7 rfl rfl (by decide) rfl ?_
  refine j_iconst X (pc' := 9) (v := 0) (by decide) dX3_measureChoices_8 rfl ?_
  refine j_istore X (pc' := 11) (i := 4) (loc' := [(4, .int ((0 : Int32))), (3, .int ((0 : Int32))), (2, .int ((0 : Int32))), (1, .int ((240 : Int32))), (0, .ref o)]) dX3_measureChoices_9 rfl (by decide) rfl ?_
  obtain ⟨n0, hw1⟩ := hw
  refine j_loc [4, 3, 2, 1, 0] rfl ?_
  exact tb_X3_measureChoices_11 X n0 _ _ _ _ _ hw1
/-! BitNotation$Type.measureParts()V -/
theorem dX3_measureParts_0 : decode cX3_measureParts 0 = .ok (.aload_n 0, 1) := by decide +kernel
theorem dX3_measureParts_1 : decode cX3_measureParts 1 = .ok (.iconst 1, 1) := by decide +kernel
theorem dX3_measureParts_2 : decode cX3_measureParts 2 = .ok (.putfield 9, 3) := by decide +kernel
theorem dX3_measureParts_5 : decode cX3_measureParts 5 = .ok (.aload_n 0, 1) := by decide +kernel
theorem dX3_measureParts_6 : decode cX3_measureParts 6 = .ok (.iconst 1, 1) := by decide +kernel
theorem dX3_measureParts_7 : decode cX3_measureParts 7 = .ok (.putfield 15, 3) := by decide +kernel
theorem dX3_measureParts_10 : decode cX3_measureParts 10 = .ok (.iconst 0, 1) := by decide +kernel
theorem dX3_measureParts_11 : decode cX3_measureParts 11 = .ok (.istore_n 1, 1) := by decide +kernel
theorem dX3_measureParts_12 : decode cX3_measureParts 12 = .ok (.iload_n 1, 1) := by decide +kernel
theorem dX3_measureParts_13 : decode cX3_measureParts 13 = .ok (.aload_n 0, 1) := by decide +kernel
theorem dX3_measureParts_14 : decode cX3_measureParts 14 = .ok (.getfield 38, 3) := by decide +kernel
theorem dX3_measureParts_17 : decode cX3_measureParts 17 = .ok (.invokevirtual 80, 3) := by decide +kernel
theorem dX3_measureParts_20 : decode cX3_measureParts 20 = .ok (.if_icmp .ge 91, 3) := by decide +kernel
theorem dX3_measureParts_23 : decode cX3_measureParts 23 = .ok (.aload_n 0, 1) := by decide +kernel
theorem dX3_measureParts_24 : decode cX3_measureParts 24 = .ok (.getfield 38, 3) := by decide +kernel
theorem dX3_measureParts_27 : decode cX3_measureParts 27 = .ok (.iload_n 1, 1) := by decide +kernel
theorem dX3_measureParts_28 : decode cX3_measureParts 28 = .ok (.invokevirtual 76, 3) := by decide +kernel
theorem dX3_measureParts_31 : decode cX3_measureParts 31 = .ok (.astore_n 2, 1) := by decide +kernel
theorem dX3_measureParts_32 : decode cX3_measureParts 32 = .ok (.aload_n 2, 1) := by decide +kernel
theorem dX3_measureParts_33 : decode cX3_measureParts 33 = .ok (.ifnull 72, 3) := by decide +kernel
theorem dX3_measureParts_36 : decode cX3_measureParts 36 = .ok (.aload_n 0, 1) := by decide +kernel
theorem dX3_measureParts_37 : decode cX3_measureParts 37 = .ok (.iload_n 1, 1) := by decide +kernel
theorem dX3_measureParts_38 : decode cX3_measureParts 38 = .ok (.invokevirtual 93, 3) := by decide +kernel
theorem dX3_measureParts_41 : decode cX3_measureParts 41 = .ok (.ifCond .eq 7, 3) := by decide +kernel
theorem dX3_measureParts_44 : decode cX3_measureParts 44 = .ok (.iconst 1, 1) := by decide +kernel
theorem dX3_measureParts_45 : decode cX3_measureParts 45 = .ok (.goto 4, 3) := by decide +kernel
theorem dX3_measureParts_48 : decode cX3_measureParts 48 = .ok (.iconst 0, 1) := by decide +kernel
theorem dX3_measureParts_49 : decode cX3_measureParts 49 = .ok (.istore_n 3, 1) := by decide +kernel
theorem dX3_measureParts_50 : decode cX3_measureParts 50 = .ok (.aload_n 0, 1) := by decide +kernel
theorem dX3_measureParts_51 : decode cX3_measureParts 51 = .ok (.dup, 1) := by decide +kernel
theorem dX3_measureParts_52 : decode cX3_measureParts 52 = .ok (.getfield 9, 3) := by decide +kernel
theorem dX3_measureParts_55 : decode cX3_measureParts 55 = .ok (.aload_n 0, 1) := by decide +kernel
theorem dX3_measureParts_56 : decode cX3_measureParts 56 = .ok (.iload_n 1, 1) := by decide +kernel
theorem dX3_measureParts_57 : decode cX3_measureParts 57 = .ok (.invokevirtual 93, 3) := by decide +kernel
theorem dX3_measureParts_60 : decode cX3_measureParts 60 = .ok (.ifCond .eq 7, 3) := by decide +kernel
theorem dX3_measureParts_63 : decode cX3_measureParts 63 = .ok (.iconst 1, 1) := by decide +kernel
theorem dX3_measureParts_64 : decode cX3_measureParts 64 = .ok (.goto 7, 3) := by decide +kernel
theorem dX3_measureParts_67 : decode cX3_measureParts 67 = .ok (.aload_n 2, 1) := by decide +kernel
theorem dX3_measureParts_68 : decode cX3_measureParts 68 = .ok (.getfield 9, 3) := by decide +kernel
theorem dX3_measureParts_71 : decode cX3_measureParts 71 = .ok (.iadd, 1) := by decide +kernel
theorem dX3_measureParts_72 : decode cX3_measureParts 72 = .ok (.putfield 9, 3) := by decide +kernel
theorem dX3_measureParts_75 : decode cX3_measureParts 75 = .ok (.aload_n 0, 1) := by decide +kernel
theorem dX3_measureParts_76 : decode cX3_measureParts 76 = .ok (.dup, 1) := by decide +kernel
theorem dX3_measureParts_77 : decode cX3_measureParts 77 = .ok (.getfield 15, 3) := by decide +kernel
theorem dX3_measureParts_80 : decode cX3_measureParts 80 = .ok (.iload_n 3, 1) := by decide +kernel
theorem dX3_measureParts_81 : decode cX3_measureParts 81 = .ok (.aload_n 2, 1) := by decide +kernel
theorem dX3_measureParts_82 : decode cX3_measureParts 82 = .ok (.getfield 15, 3) := by decide +kernel
theorem dX3_measureParts_85 : decode cX3_measureParts 85 = .ok (.iadd, 1) := by decide +kernel
theorem dX3_measureParts_86 : decode cX3_measureParts 86 = .ok (.iadd, 1) := by decide +kernel
theorem dX3_measureParts_87 : decode cX3_measureParts 87 = .ok (.putfield 15, 3) := by decide +kernel
theorem dX3_measureParts_90 : decode cX3_measureParts 90 = .ok (.aload_n 0, 1) := by decide +kernel
theorem dX3_measureParts_91 : decode cX3_measureParts 91 = .ok (.dup, 1) := by decide +kernel
theorem dX3_measureParts_92 : decode cX3_measureParts 92 = .ok (.getfield 18, 3) := by decide +kernel
theorem dX3_measureParts_95 : decode cX3_measureParts 95 = .ok (.iload_n 3, 1) := by decide +kernel
theorem dX3_measureParts_96 : decode cX3_measureParts 96 = .ok (.aload_n 2, 1) := by decide +kernel
theorem dX3_measureParts_97 : decode cX3_measureParts 97 = .ok (.getfield 18, 3) := by decide +kernel
theorem dX3_measureParts_100 : decode cX3_measureParts 100 = .ok (.iadd, 1) := by decide +kernel
theorem dX3_measureParts_101 : decode cX3_measureParts 101 = .ok (.iadd, 1) := by decide +kernel
theorem dX3_measureParts_102 : decode cX3_measureParts 102 = .ok (.putfield 18, 3) := by decide +kernel
theorem dX3_measureParts_105 : decode cX3_measureParts 105 = .ok (.iinc 1 1, 3) := by decide +kernel
theorem dX3_measureParts_108 : decode cX3_measureParts 108 = .ok (.goto (-96), 3) := by decide +kernel
theorem dX3_measureParts_111 : decode cX3_measureParts 111 = .ok (.return_, 1) := by decide +kernel
def wb_X3_measureParts_71 (o : Nat) (post : Mm → Prop) (K12 : Int32 → Mm → Prop) (v1 : Int32) (v2 : Nat) (v3 : Int32) (s0 : Int32) (s1 : Int32) (μ : Mm) : Prop := ∃ f48, μ o = some (.inl (2, f48)) ∧ 7 < f48.length ∧ ∀ μ51, μ51 = ups μ o (.inl (2, f48.set 7 (.int (s1 + s0)))) → ∃ f53 g54, μ51 o = some (.inl (2, f53)) ∧ f53[8]? = some (.int g54) ∧ ∃ f57 g58, μ51 v2 = some (.inl (2, f57)) ∧ f57[8]? = some (.int g58) ∧ ∃ f61, μ51 o = some (.inl (2, f61)) ∧ 8 < f61.length ∧ ∀ μ64, μ64 = ups μ51 o (.inl (2, f61.set 8 (.int (g54 + (v3 + g58))))) → ∃ f66 g67, μ64 o = some (.inl (2, f66)) ∧ f66[9]? = some (.int g67) ∧ ∃ f70 g71, μ64 v2 = some (.inl (2, f70)) ∧ f70[9]? = some (.int g71) ∧ ∃ f74, μ64 o = some (.inl (2, f74)) ∧ 9 < f74.length ∧ ∀ μ77, μ77 = ups μ64 o (.inl (2, f74.set 9 (.int (g67 + (v3 + g71))))) → K12 (v1 + 1) μ77
set_option maxHeartbeats 4000000 in
set_option maxRecDepth 100000 in
theorem tb_X3_measureParts_71 {p : Program} {l : Launch} {e : Env} {s : State} {m : MethodId} {args : Array Value} {below : List Frame} {meth : Method} {c : Code} {G : gG} {A : Nat → Prop} {o : Nat} {post : Mm → Prop} {K12 : Int32 → Mm → Prop} (X : Cx p l s m args meth c cX3_measureParts 4 none RX3 G A) (hK12 : ∀ (v1 : Int32) (μ : Mm), K12 v1 μ → J p l e (rmL (1) 0 0) s m args below meth c 4 G A (MQ below (QG G A (pV post)) args s 0 0 A) 0 0 12 [(0, .ref o), (1, .int v1)] [] μ) : ∀ (v1 : Int32) (v2 : Nat) (v3 : Int32) (s0 : Int32) (s1 : Int32) (μ : Mm), wb_X3_measureParts_71 o post K12 v1 v2 v3 s0 s1 μ → J p l e (rmL (1) 0 0) s m args below meth c 4 G A (MQ below (QG G A (pV post)) args s 0 0 A) 0 0 71 [(0, .ref o), (1, .int v1), (2, .ref v2), (3, .int v3)] [.int s0, .int s1, .ref o] μ := by
  intro v1 v2 v3 s0 s1 μ hw
  unfold wb_X3_measureParts_71 at hw
  refine j_iadd X (pc' := 72) dX3_measureParts_71 rfl ?_
  obtain ⟨f48, hm49, hl50, hw1⟩ := hw
  refine jp_putf X (pc' := 75) (ty := .int) hm49 7 hl50 rfl fw_TX3 tyX3_ok nmX3 (by decide) rfl wt_2_20 (by decide +kernel) rfl rfl dX3_measureParts_72 rfl (fun μ51 e52 => ?_)
  have hw2 := hw1 μ51 e52
  refine j_aload_n X (pc' := 76) (kk := 0) (i := 0) 0 rfl rfl dX3_measureParts_75 rfl ?_
  refine j_dup X (pc' := 77) rfl dX3_measureParts_76 rfl ?_
  obtain ⟨f53, g54, hm55, hv56, hw3⟩ := hw2
  refine j_getf X (pc' := 80) hm55 8 hv56 rfl fw_TX3 (by decide) wt_2_22 dX3_measureParts_77 rfl ?_
  refine j_iload_n X (pc' := 81) (kk := 3) (i := 3) 3 rfl rfl dX3_measureParts_80 rfl ?_
  refine j_aload_n X (pc' := 82) (kk := 2) (i := 2) 2 rfl rfl dX3_measureParts_81 rfl ?_
  obtain ⟨f57, g58, hm59, hv60, hw4⟩ := hw3
  refine j_getf X (pc' := 85) hm59 8 hv60 rfl fw_TX3 (by decide) wt_2_22 dX3_measureParts_82 rfl ?_
  refine j_iadd X (pc' := 86) dX3_measureParts_85 rfl ?_
  refine j_iadd X (pc' := 87) dX3_measureParts_86 rfl ?_
  obtain ⟨f61, hm62, hl63, hw5⟩ := hw4
  refine jp_putf X (pc' := 90) (ty := .int) hm62 8 hl63 rfl fw_TX3 tyX3_ok nmX3 (by decide) rfl wt_2_22 (by decide +kernel) rfl rfl dX3_measureParts_87 rfl (fun μ64 e65 => ?_)
  have hw6 := hw5 μ64 e65
  refine j_aload_n X (pc' := 91) (kk := 0) (i := 0) 0 rfl rfl dX3_measureParts_90 rfl ?_
  refine j_dup X (pc' := 92) rfl dX3_measureParts_91 rfl ?_
  obtain ⟨f66, g67, hm68, hv69, hw7⟩ := hw6
  refine j_getf X (pc' := 95) hm68 9 hv69 rfl fw_TX3 (by decide) wt_2_24 dX3_measureParts_92 rfl ?_
  refine j_iload_n X (pc' := 96) (kk := 3) (i := 3) 3 rfl rfl dX3_measureParts_95 rfl ?_
  refine j_aload_n X (pc' := 97) (kk := 2) (i := 2) 2 rfl rfl dX3_measureParts_96 rfl ?_
  obtain ⟨f70, g71, hm72, hv73, hw8⟩ := hw7
  refine j_getf X (pc' := 100) hm72 9 hv73 rfl fw_TX3 (by decide) wt_2_24 dX3_measureParts_97 rfl ?_
  refine j_iadd X (pc' := 101) dX3_measureParts_100 rfl ?_
  refine j_iadd X (pc' := 102) dX3_measureParts_101 rfl ?_
  obtain ⟨f74, hm75, hl76, hw9⟩ := hw8
  refine jp_putf X (pc' := 105) (ty := .int) hm75 9 hl76 rfl fw_TX3 tyX3_ok nmX3 (by decide) rfl wt_2_24 (by decide +kernel) rfl rfl dX3_measureParts_102 rfl (fun μ77 e78 => ?_)
  have hw10 := hw9 μ77 e78
  refine j_iinc X (pc' := 108) (i := 1) (v := v1 + 1) (loc' := [(1, .int (v1 + 1)), (0, .ref o), (2, .ref v2), (3, .int v3)]) 1 rfl rfl dX3_measureParts_105 rfl (by decide) rfl ?_
  refine j_goto X (tgt := 12) dX3_measureParts_108 (by decide) ?_
  refine j_loc [1, 0] rfl ?_
  exact hK12 _ _ hw10
def wb_X3_measureParts_49 (o : Nat) (post : Mm → Prop) (K12 : Int32 → Mm → Prop) (v1 : Int32) (v2 : Nat) (s0 : Int32) (μ : Mm) : Prop := ∃ f35 g36, μ o = some (.inl (2, f35)) ∧ f35[7]? = some (.int g36) ∧ (∃ f47, μ o = some (.inl (2, f47))) ∧ wp_X3_isOptional o v1 μ (fun r39 μ40 => (r39 = 0 → (∃ f42 g43, μ40 v2 = some (.inl (2, f42)) ∧ f42[7]? = some (.int g43) ∧ wb_X3_measureParts_71 o post K12 v1 v2 s0 g43 g36 μ40)) ∧ (¬ r39 = 0 → (wb_X3_measureParts_71 o post K12 v1 v2 s0 (1 : Int32) g36 μ40)))
set_option maxHeartbeats 4000000 in
set_option maxRecDepth 100000 in
theorem tb_X3_measureParts_49 {p : Program} {l : Launch} {e : Env} {s : State} {m : MethodId} {args : Array Value} {below : List Frame} {meth : Method} {c : Code} {G : gG} {A : Nat → Prop} {o : Nat} {post : Mm → Prop} {K12 : Int32 → Mm → Prop} (X : Cx p l s m args meth c cX3_measureParts 4 none RX3 G A) (hK12 : ∀ (v1 : Int32) (μ : Mm), K12 v1 μ → J p l e (rmL (1) 0 0) s m args below meth c 4 G A (MQ below (QG G A (pV post)) args s 0 0 A) 0 0 12 [(0, .ref o), (1, .int v1)] [] μ) : ∀ (v1 : Int32) (v2 : Nat) (s0 : Int32) (μ : Mm), wb_X3_measureParts_49 o post K12 v1 v2 s0 μ → J p l e (rmL (1) 0 0) s m args below meth c 4 G A (MQ below (QG G A (pV post)) args s 0 0 A) 0 0 49 [(0, .ref o), (1, .int v1), (2, .ref v2)] [.int s0] μ := by
  intro v1 v2 s0 μ hw
  unfold wb_X3_measureParts_49 at hw
  refine j_istore_n X (pc' := 50) (kk := 3) (i := 3) (loc' := [(3, .int s0), (0, .ref o), (1, .int v1), (2, .ref v2)]) dX3_measureParts_49 rfl rfl (by decide) rfl ?_
  refine j_aload_n X (pc' := 51) (kk := 0) (i := 0) 1 rfl rfl dX3_measureParts_50 rfl ?_
  refine j_dup X (pc' := 52) rfl dX3_measureParts_51 rfl ?_
  obtain ⟨f35, g36, hm37, hv38, hw1⟩ := hw
  refine j_getf X (pc' := 55) hm37 7 hv38 rfl fw_TX3 (by decide) wt_2_20 dX3_measureParts_52 rfl ?_
  refine j_aload_n X (pc' := 56) (kk := 0) (i := 0) 1 rfl rfl dX3_measureParts_55 rfl ?_
  refine j_iload_n X (pc' := 57) (kk := 1) (i := 1) 2 rfl rfl dX3_measureParts_56 rfl ?_
  obtain ⟨⟨f47, hm46⟩, hw2⟩ := hw1
  refine j_callVi (As := [.int v1]) (rest := [.int g36, .ref o]) X (pc' := 60) (cells' := 0) (slots' := 0) (c_X3_isOptional l G A o v1 μ _ hw2) (gk_X3_isOptional wt_2_83) hd_X3_isOptional (rmL_fit (k1 := 0) (k := 1) (by omega) (by decide)) hm46 rfl rfl rfl (Nat.le_of_ble_eq_true rfl) dX3_measureParts_57 rfl ⟨Nat.le_of_ble_eq_true rfl, Nat.le_of_ble_eq_true rfl⟩ rfl rfl (fun r39 μ40 hw3 => ?_)
  refine j_if_eq X (pc' := 63) (tgt := 67) dX3_measureParts_60 rfl (by decide) (fun c41 => ?_) (fun c41 => ?_)
  · have hw4 := hw3.1 c41
    refine j_aload_n X (pc' := 68) (kk := 2) (i := 2) 3 rfl rfl dX3_measureParts_67 rfl ?_
    obtain ⟨f42, g43, hm44, hv45, hw5⟩ := hw4
    refine j_getf X (pc' := 71) hm44 7 hv45 rfl fw_TX3 (by decide) wt_2_20 dX3_measureParts_68 rfl ?_
    refine j_loc [1, 2, 3, 0] rfl ?_
    exact tb_X3_measureParts_71 X hK12 _ _ _ _ _ _ hw5
  · have hw6 := hw3.2 c41
    refine j_iconst X (pc' := 64) (v := 1) (by decide) dX3_measureParts_63 rfl ?_
    refine j_goto X (tgt := 71) dX3_measureParts_64 (by decide) ?_
    refine j_loc [1, 2, 3, 0] rfl ?_
    exact tb_X3_measureParts_71 X hK12 _ _ _ _ _ _ hw6
def wb_X3_measureParts_12 (o : Nat) (post : Mm → Prop)  : Nat → Int32 → Mm → Prop
  | 0 => fun _ _ => False
  | n + 1 => fun v1 μ => ∃ f11 g12, μ o = some (.inl (2, f11)) ∧ f11[4]? = some (.ref g12) ∧ (∃ f34, μ g12 = some (.inl (3, f34))) ∧ wp_X4_size g12 μ (fun r15 μ16 => (r15 ≤ v1 → (post μ16)) ∧ (¬ r15 ≤ v1 → (∃ f18 g19, μ16 o = some (.inl (2, f18)) ∧ f18[4]? = some (.ref g19) ∧ (∃ f32, μ16 g19 = some (.inl (3, f32))) ∧ wp_X4_at g19 v1 μ16 (fun r22 μ23 => (r22 = none → (wb_X3_measureParts_12 o post n (v1 + 1) μ23)) ∧ (∀ a25, r22 = some a25 → ((∃ f30, μ23 o = some (.inl (2, f30))) ∧ wp_X3_isOptional o v1 μ23 (fun r26 μ27 => (r26 = 0 → (wb_X3_measureParts_49 o post (wb_X3_measureParts_12 o post n) v1 a25 (0 : Int32) μ27)) ∧ (¬ r26 = 0 → (wb_X3_measureParts_49 o post (wb_X3_measureParts_12 o post n) v1 a25 (1 : Int32) μ27)))))))))
set_option maxHeartbeats 4000000 in
set_option maxRecDepth 100000 in
theorem tb_X3_measureParts_12 {p : Program} {l : Launch} {e : Env} {s : State} {m : MethodId} {args : Array Value} {below : List Frame} {meth : Method} {c : Code} {G : gG} {A : Nat → Prop} {o : Nat} {post : Mm → Prop} (X : Cx p l s m args meth c cX3_measureParts 4 none RX3 G A) : ∀ (n : Nat) (v1 : Int32) (μ : Mm), wb_X3_measureParts_12 o post n v1 μ → J p l e (rmL (1) 0 0) s m args below meth c 4 G A (MQ below (QG G A (pV post)) args s 0 0 A) 0 0 12 [(0, .ref o), (1, .int v1)] [] μ := by
  intro n
  induction n with
  | zero => intro v1 μ hw; exact hw.elim
  | succ n ih =>
    intro v1 μ hw
    rw [wb_X3_measureParts_12] at hw
    refine j_iload_n X (pc' := 13) (kk := 1) (i := 1) 1 rfl rfl dX3_measureParts_12 rfl ?_
    refine j_aload_n X (pc' := 14) (kk := 0) (i := 0) 0 rfl rfl dX3_measureParts_13 rfl ?_
    obtain ⟨f11, g12, hm13, hv14, hw1⟩ := hw
    refine j_getf X (pc' := 17) hm13 4 hv14 rfl fw_TX3 (by decide) wt_2_12 dX3_measureParts_14 rfl ?_
    obtain ⟨⟨f34, hm33⟩, hw2⟩ := hw1
    refine j_callVi (As := []) (rest := [.int v1]) X (pc' := 20) (cells' := 0) (slots' := 0) (c_X4_size l G A g12 μ _ hw2) (gk_X4_size wt_2_74) hd_X4_size (rmL_fit (k1 := 0) (k := 1) (by omega) (by decide)) hm33 rfl rfl rfl (Nat.le_of_ble_eq_true rfl) dX3_measureParts_17 rfl ⟨Nat.le_of_ble_eq_true rfl, Nat.le_of_ble_eq_true rfl⟩ rfl rfl (fun r15 μ16 hw3 => ?_)
    refine j_icmp_ge X (pc' := 23) (tgt := 111) dX3_measureParts_20 rfl (by decide) (fun c17 => ?_) (fun c17 => ?_)
    · have hw4 := hw3.1 c17
      exact j_vret X ⟨rfl, hw4⟩ (Nat.le_of_ble_eq_true rfl) (Nat.le_of_ble_eq_true rfl) dX3_measureParts_111
    · have hw5 := hw3.2 c17
      refine j_aload_n X (pc' := 24) (kk := 0) (i := 0) 0 rfl rfl dX3_measureParts_23 rfl ?_
      obtain ⟨f18, g19, hm20, hv21, hw6⟩ := hw5
      refine j_getf X (pc' := 27) hm20 4 hv21 rfl fw_TX3 (by decide) wt_2_12 dX3_measureParts_24 rfl ?_
      refine j_iload_n X (pc' := 28) (kk := 1) (i := 1) 1 rfl rfl dX3_measureParts_27 rfl ?_
      obtain ⟨⟨f32, hm31⟩, hw7⟩ := hw6
      refine j_callVq (As := [.int v1]) (rest := []) X (pc' := 31) (cells' := 0) (slots' := 0) (c_X4_at l G A g19 v1 μ16 _ hw7) (gk_X4_at wt_2_64) hd_X4_at (rmL_fit (k1 := 0) (k := 1) (by omega) (by decide)) hm31 rfl rfl rfl (Nat.le_of_ble_eq_true rfl) dX3_measureParts_28 rfl ⟨Nat.le_of_ble_eq_true rfl, Nat.le_of_ble_eq_true rfl⟩ rfl rfl (fun r22 μ23 hw8 => ?_)
      refine j_astore_nq X (pc' := 32) (kk := 2) (i := 2) (x := r22) (loc' := [(2, va_rf r22), (0, .ref o), (1, .int v1)]) dX3_measureParts_31 rfl rfl (by decide) rfl ?_
      refine j_aload_nq X (pc' := 33) (kk := 2) (i := 2) (x := r22) 0 rfl rfl dX3_measureParts_32 rfl ?_
      refine j_ifnull X (pc' := 36) (x := r22) (tgt := 105) dX3_measureParts_33 rfl (by decide) (fun c24 => ?_) (fun a25 c24 => ?_)
      · have hw9 := hw8.1 c24
        refine j_iinc X (pc' := 108) (i := 1) (v := v1 + 1) (loc' := [(1, .int (v1 + 1)), (2, va_rf r22), (0, .ref o)]) 2 rfl rfl dX3_measureParts_105 rfl (by decide) rfl ?_
        refine j_goto X (tgt := 12) dX3_measureParts_108 (by decide) ?_
        refine j_loc [2, 0] rfl ?_
        exact ih _ _ hw9
      · have hw10 := hw8.2 a25 c24
        subst c24
        refine j_aload_n X (pc' := 37) (kk := 0) (i := 0) 1 rfl rfl dX3_measureParts_36 rfl ?_
        refine j_iload_n X (pc' := 38) (kk := 1) (i := 1) 2 rfl rfl dX3_measureParts_37 rfl ?_
        obtain ⟨⟨f30, hm29⟩, hw11⟩ := hw10
        refine j_callVi (As := [.int v1]) (rest := []) X (pc' := 41) (cells' := 0) (slots' := 0) (c_X3_isOptional l G A o v1 μ23 _ hw11) (gk_X3_isOptional wt_2_83) hd_X3_isOptional (rmL_fit (k1 := 0) (k := 1) (by omega) (by decide)) hm29 rfl rfl rfl (Nat.le_of_ble_eq_true rfl) dX3_measureParts_38 rfl ⟨Nat.le_of_ble_eq_true rfl, Nat.le_of_ble_eq_true rfl⟩ rfl rfl (fun r26 μ27 hw12 => ?_)
        refine j_if_eq X (pc' := 44) (tgt := 48) dX3_measureParts_41 rfl (by decide) (fun c28 => ?_) (fun c28 => ?_)
        · have hw13 := hw12.1 c28
          refine j_iconst X (pc' := 49) (v := 0) (by decide) dX3_measureParts_48 rfl ?_
          refine j_loc [1, 2, 0] rfl ?_
          exact tb_X3_measureParts_49 X ih _ _ _ _ hw13
        · have hw14 := hw12.2 c28
          refine j_iconst X (pc' := 45) (v := 1) (by decide) dX3_measureParts_44 rfl ?_
          refine j_goto X (tgt := 49) dX3_measureParts_45 (by decide) ?_
          refine j_loc [1, 2, 0] rfl ?_
          exact tb_X3_measureParts_49 X ih _ _ _ _ hw14
def wp_X3_measureParts (o : Nat) (μ : Mm) (post : Mm → Prop) : Prop := ∃ f1, μ o = some (.inl (2, f1)) ∧ 7 < f1.length ∧ ∀ μ4, μ4 = ups μ o (.inl (2, f1.set 7 (.int (1 : Int32)))) → ∃ f6, μ4 o = some (.inl (2, f6)) ∧ 8 < f6.length ∧ ∀ μ9, μ9 = ups μ4 o (.inl (2, f6.set 8 (.int (1 : Int32)))) → ∃ n, wb_X3_measureParts_12 o post n (0 : Int32) μ9
set_option maxHeartbeats 4000000 in
set_option maxRecDepth 100000 in
theorem c_X3_measureParts (l : Launch) (G : gG) (A : Nat → Prop) (o : Nat) (μ : Mm) (post : Mm → Prop) (h : wp_X3_measureParts o μ post) : Met l yX3_measureParts (.code yX3_measureParts cX3_measureParts 4 none :: wsA) (rmL (1) 0 0) (PcG G A μ [.ref o]) (QG G A (pV post)) 0 0 A := by
  refine met_J (loc := [(0, .ref o)]) (by decide +kernel) (Nat.le_of_ble_eq_true rfl) rfl ?_
  intro p e s m args below meth c X hin
  have X : Cx p l s m args meth c cX3_measureParts 4 none RX3 G A := X
  have hw := h
  unfold wp_X3_measureParts at hw
  refine j_aload_n X (pc' := 1) (kk := 0) (i := 0) 0 rfl rfl dX3_measureParts_0 rfl ?_
  refine j_iconst X (pc' := 2) (v := 1) (by decide) dX3_measureParts_1 rfl ?_
  obtain ⟨f1, hm2, hl3, hw1⟩ := hw
  refine jp_putf X (pc' := 5) (ty := .int) hm2 7 hl3 rfl fw_TX3 tyX3_ok nmX3 (by decide) rfl wt_2_20 (by decide +kernel) rfl rfl dX3_measureParts_2 rfl (fun μ4 e5 => ?_)
  have hw2 := hw1 μ4 e5
  refine j_aload_n X (pc' := 6) (kk := 0) (i := 0) 0 rfl rfl dX3_measureParts_5 rfl ?_
  refine j_iconst X (pc' := 7) (v := 1) (by decide) dX3_measureParts_6 rfl ?_
  obtain ⟨f6, hm7, hl8, hw3⟩ := hw2
  refine jp_putf X (pc' := 10) (ty := .int) hm7 8 hl8 rfl fw_TX3 tyX3_ok nmX3 (by decide) rfl wt_2_22 (by decide +kernel) rfl rfl dX3_measureParts_7 rfl (fun μ9 e10 => ?_)
  have hw4 := hw3 μ9 e10
  refine j_iconst X (pc' := 11) (v := 0) (by decide) dX3_measureParts_10 rfl ?_
  refine j_istore_n X (pc' := 12) (kk := 1) (i := 1) (loc' := [(1, .int ((0 : Int32))), (0, .ref o)]) dX3_measureParts_11 rfl rfl (by decide) rfl ?_
  obtain ⟨n0, hw5⟩ := hw4
  refine j_loc [1, 0] rfl ?_
  exact tb_X3_measureParts_12 X n0 _ _ hw5
/-! BitNotation$Type.measureAdditions()V -/
theorem dX3_measureAdditions_0 : decode cX3_measureAdditions 0 = .ok (.aload_n 0, 1) := by decide +kernel
theorem dX3_measureAdditions_1 : decode cX3_measureAdditions 1 = .ok (.getfield 55, 3) := by decide +kernel
theorem dX3_measureAdditions_4 : decode cX3_measureAdditions 4 = .ok (.invokevirtual 80, 3) := by decide +kernel
theorem dX3_measureAdditions_7 : decode cX3_measureAdditions 7 = .ok (.ifCond .le 13, 3) := by decide +kernel
theorem dX3_measureAdditions_10 : decode cX3_measureAdditions 10 = .ok (.aload_n 0, 1) := by decide +kernel
theorem dX3_measureAdditions_11 : decode cX3_measureAdditions 11 = .ok (.dup, 1) := by decide +kernel
theorem dX3_measureAdditions_12 : decode cX3_measureAdditions 12 = .ok (.getfield 15, 3) := by decide +kernel
theorem dX3_measureAdditions_15 : decode cX3_measureAdditions 15 = .ok (.iconst 2, 1) := by decide +kernel
theorem dX3_measureAdditions_16 : decode cX3_measureAdditions 16 = .ok (.iadd, 1) := by decide +kernel
theorem dX3_measureAdditions_17 : decode cX3_measureAdditions 17 = .ok (.putfield 15, 3) := by decide +kernel
theorem dX3_measureAdditions_20 : decode cX3_measureAdditions 20 = .ok (.iconst 0, 1) := by decide +kernel
theorem dX3_measureAdditions_21 : decode cX3_measureAdditions 21 = .ok (.istore_n 1, 1) := by decide +kernel
theorem dX3_measureAdditions_22 : decode cX3_measureAdditions 22 = .ok (.iload_n 1, 1) := by decide +kernel
theorem dX3_measureAdditions_23 : decode cX3_measureAdditions 23 = .ok (.aload_n 0, 1) := by decide +kernel
theorem dX3_measureAdditions_24 : decode cX3_measureAdditions 24 = .ok (.getfield 55, 3) := by decide +kernel
theorem dX3_measureAdditions_27 : decode cX3_measureAdditions 27 = .ok (.invokevirtual 80, 3) := by decide +kernel
theorem dX3_measureAdditions_30 : decode cX3_measureAdditions 30 = .ok (.if_icmp .ge 51, 3) := by decide +kernel
theorem dX3_measureAdditions_33 : decode cX3_measureAdditions 33 = .ok (.aload_n 0, 1) := by decide +kernel
theorem dX3_measureAdditions_34 : decode cX3_measureAdditions 34 = .ok (.getfield 55, 3) := by decide +kernel
theorem dX3_measureAdditions_37 : decode cX3_measureAdditions 37 = .ok (.iload_n 1, 1) := by decide +kernel
theorem dX3_measureAdditions_38 : decode cX3_measureAdditions 38 = .ok (.invokevirtual 76, 3) := by decide +kernel
theorem dX3_measureAdditions_41 : decode cX3_measureAdditions 41 = .ok (.astore_n 2, 1) := by decide +kernel
theorem dX3_measureAdditions_42 : decode cX3_measureAdditions 42 = .ok (.aload_n 2, 1) := by decide +kernel
theorem dX3_measureAdditions_43 : decode cX3_measureAdditions 43 = .ok (.ifnull 32, 3) := by decide +kernel
theorem dX3_measureAdditions_46 : decode cX3_measureAdditions 46 = .ok (.aload_n 0, 1) := by decide +kernel
theorem dX3_measureAdditions_47 : decode cX3_measureAdditions 47 = .ok (.dup, 1) := by decide +kernel
theorem dX3_measureAdditions_48 : decode cX3_measureAdditions 48 = .ok (.getfield 15, 3) := by decide +kernel
theorem dX3_measureAdditions_51 : decode cX3_measureAdditions 51 = .ok (.bipush 8, 2) := by decide +kernel
theorem dX3_measureAdditions_53 : decode cX3_measureAdditions 53 = .ok (.aload_n 2, 1) := by decide +kernel
theorem dX3_measureAdditions_54 : decode cX3_measureAdditions 54 = .ok (.getfield 15, 3) := by decide +kernel
theorem dX3_measureAdditions_57 : decode cX3_measureAdditions 57 = .ok (.iadd, 1) := by decide +kernel
theorem dX3_measureAdditions_58 : decode cX3_measureAdditions 58 = .ok (.iadd, 1) := by decide +kernel
theorem dX3_measureAdditions_59 : decode cX3_measureAdditions 59 = .ok (.putfield 15, 3) := by decide +kernel
theorem dX3_measureAdditions_62 : decode cX3_measureAdditions 62 = .ok (.aload_n 0, 1) := by decide +kernel
theorem dX3_measureAdditions_63 : decode cX3_measureAdditions 63 = .ok (.dup, 1) := by decide +kernel
theorem dX3_measureAdditions_64 : decode cX3_measureAdditions 64 = .ok (.getfield 18, 3) := by decide +kernel
theorem dX3_measureAdditions_67 : decode cX3_measureAdditions 67 = .ok (.aload_n 2, 1) := by decide +kernel
theorem dX3_measureAdditions_68 : decode cX3_measureAdditions 68 = .ok (.getfield 18, 3) := by decide +kernel
theorem dX3_measureAdditions_71 : decode cX3_measureAdditions 71 = .ok (.iadd, 1) := by decide +kernel
theorem dX3_measureAdditions_72 : decode cX3_measureAdditions 72 = .ok (.putfield 18, 3) := by decide +kernel
theorem dX3_measureAdditions_75 : decode cX3_measureAdditions 75 = .ok (.iinc 1 1, 3) := by decide +kernel
theorem dX3_measureAdditions_78 : decode cX3_measureAdditions 78 = .ok (.goto (-56), 3) := by decide +kernel
theorem dX3_measureAdditions_81 : decode cX3_measureAdditions 81 = .ok (.return_, 1) := by decide +kernel
def wb_X3_measureAdditions_22 (o : Nat) (post : Mm → Prop)  : Nat → Int32 → Mm → Prop
  | 0 => fun _ _ => False
  | n + 1 => fun v1 μ => ∃ f19 g20, μ o = some (.inl (2, f19)) ∧ f19[6]? = some (.ref g20) ∧ (∃ f63, μ g20 = some (.inl (3, f63))) ∧ wp_X4_size g20 μ (fun r23 μ24 => (r23 ≤ v1 → (post μ24)) ∧ (¬ r23 ≤ v1 → (∃ f26 g27, μ24 o = some (.inl (2, f26)) ∧ f26[6]? = some (.ref g27) ∧ (∃ f61, μ24 g27 = some (.inl (3, f61))) ∧ wp_X4_at g27 v1 μ24 (fun r30 μ31 => (r30 = none → (wb_X3_measureAdditions_22 o post n (v1 + 1) μ31)) ∧ (∀ a33, r30 = some a33 → (∃ f34 g35, μ31 o = some (.inl (2, f34)) ∧ f34[8]? = some (.int g35) ∧ ∃ f38 g39, μ31 a33 = some (.inl (2, f38)) ∧ f38[8]? = some (.int g39) ∧ ∃ f42, μ31 o = some (.inl (2, f42)) ∧ 8 < f42.length ∧ ∀ μ45, μ45 = ups μ31 o (.inl (2, f42.set 8 (.int (g35 + ((8 : Int32) + g39))))) → ∃ f47 g48, μ45 o = some (.inl (2, f47)) ∧ f47[9]? = some (.int g48) ∧ ∃ f51 g52, μ45 a33 = some (.inl (2, f51)) ∧ f51[9]? = some (.int g52) ∧ ∃ f55, μ45 o = some (.inl (2, f55)) ∧ 9 < f55.length ∧ ∀ μ58, μ58 = ups μ45 o (.inl (2, f55.set 9 (.int (g48 + g52)))) → wb_X3_measureAdditions_22 o post n (v1 + 1) μ58))))))
set_option maxHeartbeats 4000000 in
set_option maxRecDepth 100000 in
theorem tb_X3_measureAdditions_22 {p : Program} {l : Launch} {e : Env} {s : State} {m : MethodId} {args : Array Value} {below : List Frame} {meth : Method} {c : Code} {G : gG} {A : Nat → Prop} {o : Nat} {post : Mm → Prop} (X : Cx p l s m args meth c cX3_measureAdditions 3 none RX3 G A) : ∀ (n : Nat) (v1 : Int32) (μ : Mm), wb_X3_measureAdditions_22 o post n v1 μ → J p l e (rmL (1) 0 0) s m args below meth c 3 G A (MQ below (QG G A (pV post)) args s 0 0 A) 0 0 22 [(0, .ref o), (1, .int v1)] [] μ := by
  intro n
  induction n with
  | zero => intro v1 μ hw; exact hw.elim
  | succ n ih =>
    intro v1 μ hw
    rw [wb_X3_measureAdditions_22] at hw
    refine j_iload_n X (pc' := 23) (kk := 1) (i := 1) 1 rfl rfl dX3_measureAdditions_22 rfl ?_
    refine j_aload_n X (pc' := 24) (kk := 0) (i := 0) 0 rfl rfl dX3_measureAdditions_23 rfl ?_
    obtain ⟨f19, g20, hm21, hv22, hw1⟩ := hw
    refine j_getf X (pc' := 27) hm21 6 hv22 rfl fw_TX3 (by decide) wt_2_16 dX3_measureAdditions_24 rfl ?_
    obtain ⟨⟨f63, hm62⟩, hw2⟩ := hw1
    refine j_callVi (As := []) (rest := [.int v1]) X (pc' := 30) (cells' := 0) (slots' := 0) (c_X4_size l G A g20 μ _ hw2) (gk_X4_size wt_2_74) hd_X4_size (rmL_fit (k1 := 0) (k := 1) (by omega) (by decide)) hm62 rfl rfl rfl (Nat.le_of_ble_eq_true rfl) dX3_measureAdditions_27 rfl ⟨Nat.le_of_ble_eq_true rfl, Nat.le_of_ble_eq_true rfl⟩ rfl rfl (fun r23 μ24 hw3 => ?_)
    refine j_icmp_ge X (pc' := 33) (tgt := 81) dX3_measureAdditions_30 rfl (by decide) (fun c25 => ?_) (fun c25 => ?_)
    · have hw4 := hw3.1 c25
      exact j_vret X ⟨rfl, hw4⟩ (Nat.le_of_ble_eq_true rfl) (Nat.le_of_ble_eq_true rfl) dX3_measureAdditions_81
    · have hw5 := hw3.2 c25
      refine j_aload_n X (pc' := 34) (kk := 0) (i := 0) 0 rfl rfl dX3_measureAdditions_33 rfl ?_
      obtain ⟨f26, g27, hm28, hv29, hw6⟩ := hw5
      refine j_getf X (pc' := 37) hm28 6 hv29 rfl fw_TX3 (by decide) wt_2_16 dX3_measureAdditions_34 rfl ?_
      refine j_iload_n X (pc' := 38) (kk := 1) (i := 1) 1 rfl rfl dX3_measureAdditions_37 rfl ?_
      obtain ⟨⟨f61, hm60⟩, hw7⟩ := hw6
      refine j_callVq (As := [.int v1]) (rest := []) X (pc' := 41) (cells' := 0) (slots' := 0) (c_X4_at l G A g27 v1 μ24 _ hw7) (gk_X4_at wt_2_64) hd_X4_at (rmL_fit (k1 := 0) (k := 1) (by omega) (by decide)) hm60 rfl rfl rfl (Nat.le_of_ble_eq_true rfl) dX3_measureAdditions_38 rfl ⟨Nat.le_of_ble_eq_true rfl, Nat.le_of_ble_eq_true rfl⟩ rfl rfl (fun r30 μ31 hw8 => ?_)
      refine j_astore_nq X (pc' := 42) (kk := 2) (i := 2) (x := r30) (loc' := [(2, va_rf r30), (0, .ref o), (1, .int v1)]) dX3_measureAdditions_41 rfl rfl (by decide) rfl ?_
      refine j_aload_nq X (pc' := 43) (kk := 2) (i := 2) (x := r30) 0 rfl rfl dX3_measureAdditions_42 rfl ?_
      refine j_ifnull X (pc' := 46) (x := r30) (tgt := 75) dX3_measureAdditions_43 rfl (by decide) (fun c32 => ?_) (fun a33 c32 => ?_)
      · have hw9 := hw8.1 c32
        refine j_iinc X (pc' := 78) (i := 1) (v := v1 + 1) (loc' := [(1, .int (v1 + 1)), (2, va_rf r30), (0, .ref o)]) 2 rfl rfl dX3_measureAdditions_75 rfl (by decide) rfl ?_
        refine j_goto X (tgt := 22) dX3_measureAdditions_78 (by decide) ?_
        refine j_loc [2, 0] rfl ?_
        exact ih _ _ hw9
      · have hw10 := hw8.2 a33 c32
        subst c32
        refine j_aload_n X (pc' := 47) (kk := 0) (i := 0) 1 rfl rfl dX3_measureAdditions_46 rfl ?_
        refine j_dup X (pc' := 48) rfl dX3_measureAdditions_47 rfl ?_
        obtain ⟨f34, g35, hm36, hv37, hw11⟩ := hw10
        refine j_getf X (pc' := 51) hm36 8 hv37 rfl fw_TX3 (by decide) wt_2_22 dX3_measureAdditions_48 rfl ?_
        refine j_bipush X (pc' := 53) (v := 8) (by decide) dX3_measureAdditions_51 rfl ?_
        refine j_aload_n X (pc' := 54) (kk := 2) (i := 2) 0 rfl rfl dX3_measureAdditions_53 rfl ?_
        obtain ⟨f38, g39, hm40, hv41, hw12⟩ := hw11
        refine j_getf X (pc' := 57) hm40 8 hv41 rfl fw_TX3 (by decide) wt_2_22 dX3_measureAdditions_54 rfl ?_
        refine j_iadd X (pc' := 58) dX3_measureAdditions_57 rfl ?_
        refine j_iadd X (pc' := 59) dX3_measureAdditions_58 rfl ?_
        obtain ⟨f42, hm43, hl44, hw13⟩ := hw12
        refine jp_putf X (pc' := 62) (ty := .int) hm43 8 hl44 rfl fw_TX3 tyX3_ok nmX3 (by decide) rfl wt_2_22 (by decide +kernel) rfl rfl dX3_measureAdditions_59 rfl (fun μ45 e46 => ?_)
        have hw14 := hw13 μ45 e46
        refine j_aload_n X (pc' := 63) (kk := 0) (i := 0) 1 rfl rfl dX3_measureAdditions_62 rfl ?_
        refine j_dup X (pc' := 64) rfl dX3_measureAdditions_63 rfl ?_
        obtain ⟨f47, g48, hm49, hv50, hw15⟩ := hw14
        refine j_getf X (pc' := 67) hm49 9 hv50 rfl fw_TX3 (by decide) wt_2_24 dX3_measureAdditions_64 rfl ?_
        refine j_aload_n X (pc' := 68) (kk := 2) (i := 2) 0 rfl rfl dX3_measureAdditions_67 rfl ?_
        obtain ⟨f51, g52, hm53, hv54, hw16⟩ := hw15
        refine j_getf X (pc' := 71) hm53 9 hv54 rfl fw_TX3 (by decide) wt_2_24 dX3_measureAdditions_68 rfl ?_
        refine j_iadd X (pc' := 72) dX3_measureAdditions_71 rfl ?_
        obtain ⟨f55, hm56, hl57, hw17⟩ := hw16
        refine jp_putf X (pc' := 75) (ty := .int) hm56 9 hl57 rfl fw_TX3 tyX3_ok nmX3 (by decide) rfl wt_2_24 (by decide +kernel) rfl rfl dX3_measureAdditions_72 rfl (fun μ58 e59 => ?_)
        have hw18 := hw17 μ58 e59
        refine j_iinc X (pc' := 78) (i := 1) (v := v1 + 1) (loc' := [(1, .int (v1 + 1)), (2, .ref a33), (0, .ref o)]) 2 rfl rfl dX3_measureAdditions_75 rfl (by decide) rfl ?_
        refine j_goto X (tgt := 22) dX3_measureAdditions_78 (by decide) ?_
        refine j_loc [2, 0] rfl ?_
        exact ih _ _ hw18
def wb_X3_measureAdditions_20 (o : Nat) (post : Mm → Prop)   (μ : Mm) : Prop := ∃ n, wb_X3_measureAdditions_22 o post n (0 : Int32) μ
set_option maxHeartbeats 4000000 in
set_option maxRecDepth 100000 in
theorem tb_X3_measureAdditions_20 {p : Program} {l : Launch} {e : Env} {s : State} {m : MethodId} {args : Array Value} {below : List Frame} {meth : Method} {c : Code} {G : gG} {A : Nat → Prop} {o : Nat} {post : Mm → Prop} (X : Cx p l s m args meth c cX3_measureAdditions 3 none RX3 G A) : ∀ (μ : Mm), wb_X3_measureAdditions_20 o post μ → J p l e (rmL (1) 0 0) s m args below meth c 3 G A (MQ below (QG G A (pV post)) args s 0 0 A) 0 0 20 [(0, .ref o)] [] μ := by
  intro μ hw
  unfold wb_X3_measureAdditions_20 at hw
  refine j_iconst X (pc' := 21) (v := 0) (by decide) dX3_measureAdditions_20 rfl ?_
  refine j_istore_n X (pc' := 22) (kk := 1) (i := 1) (loc' := [(1, .int ((0 : Int32))), (0, .ref o)]) dX3_measureAdditions_21 rfl rfl (by decide) rfl ?_
  obtain ⟨n0, hw1⟩ := hw
  refine j_loc [1, 0] rfl ?_
  exact tb_X3_measureAdditions_22 X n0 _ _ hw1
def wp_X3_measureAdditions (o : Nat) (μ : Mm) (post : Mm → Prop) : Prop := ∃ f1 g2, μ o = some (.inl (2, f1)) ∧ f1[6]? = some (.ref g2) ∧ (∃ f18, μ g2 = some (.inl (3, f18))) ∧ wp_X4_size g2 μ (fun r5 μ6 => (r5 ≤ 0 → (wb_X3_measureAdditions_20 o post μ6)) ∧ (¬ r5 ≤ 0 → (∃ f8 g9, μ6 o = some (.inl (2, f8)) ∧ f8[8]? = some (.int g9) ∧ ∃ f12, μ6 o = some (.inl (2, f12)) ∧ 8 < f12.length ∧ ∀ μ15, μ15 = ups μ6 o (.inl (2, f12.set 8 (.int (g9 + (2 : Int32))))) → wb_X3_measureAdditions_20 o post μ15)))
set_option maxHeartbeats 4000000 in
set_option maxRecDepth 100000 in
theorem c_X3_measureAdditions (l : Launch) (G : gG) (A : Nat → Prop) (o : Nat) (μ : Mm) (post : Mm → Prop) (h : wp_X3_measureAdditions o μ post) : Met l yX3_measureAdditions (.code yX3_measureAdditions cX3_measureAdditions 3 none :: wsA) (rmL (1) 0 0) (PcG G A μ [.ref o]) (QG G A (pV post)) 0 0 A := by
  refine met_J (loc := [(0, .ref o)]) (by decide +kernel) (Nat.le_of_ble_eq_true rfl) rfl ?_
  intro p e s m args below meth c X hin
  have X : Cx p l s m args meth c cX3_measureAdditions 3 none RX3 G A := X
  have hw := h
  unfold wp_X3_measureAdditions at hw
  refine j_aload_n X (pc' := 1) (kk := 0) (i := 0) 0 rfl rfl dX3_measureAdditions_0 rfl ?_
  obtain ⟨f1, g2, hm3, hv4, hw1⟩ := hw
  refine j_getf X (pc' := 4) hm3 6 hv4 rfl fw_TX3 (by decide) wt_2_16 dX3_measureAdditions_1 rfl ?_
  obtain ⟨⟨f18, hm17⟩, hw2⟩ := hw1
  refine j_callVi (As := []) (rest := []) X (pc' := 7) (cells' := 0) (slots' := 0) (c_X4_size l G A g2 μ _ hw2) (gk_X4_size wt_2_74) hd_X4_size (rmL_fit (k1 := 0) (k := 1) (by omega) (by decide)) hm17 rfl rfl rfl (Nat.le_of_ble_eq_true rfl) dX3_measureAdditions_4 rfl ⟨Nat.le_of_ble_eq_true rfl, Nat.le_of_ble_eq_true rfl⟩ rfl rfl (fun r5 μ6 hw3 => ?_)
  refine j_if_le X (pc' := 10) (tgt := 20) dX3_measureAdditions_7 rfl (by decide) (fun c7 => ?_) (fun c7 => ?_)
  · have hw4 := hw3.1 c7
    exact tb_X3_measureAdditions_20 X  _ hw4
  · have hw5 := hw3.2 c7
    refine j_aload_n X (pc' := 11) (kk := 0) (i := 0) 0 rfl rfl dX3_measureAdditions_10 rfl ?_
    refine j_dup X (pc' := 12) rfl dX3_measureAdditions_11 rfl ?_
    obtain ⟨f8, g9, hm10, hv11, hw6⟩ := hw5
    refine j_getf X (pc' := 15) hm10 8 hv11 rfl fw_TX3 (by decide) wt_2_22 dX3_measureAdditions_12 rfl ?_
    refine j_iconst X (pc' := 16) (v := 2) (by decide) dX3_measureAdditions_15 rfl ?_
    refine j_iadd X (pc' := 17) dX3_measureAdditions_16 rfl ?_
    obtain ⟨f12, hm13, hl14, hw7⟩ := hw6
    refine jp_putf X (pc' := 20) (ty := .int) hm13 8 hl14 rfl fw_TX3 tyX3_ok nmX3 (by decide) rfl wt_2_22 (by decide +kernel) rfl rfl dX3_measureAdditions_17 rfl (fun μ15 e16 => ?_)
    have hw8 := hw7 μ15 e16
    exact tb_X3_measureAdditions_20 X  _ hw8
/-! BitNotation$Type.measure()Z -/
theorem dX3_measure_0 : decode cX3_measure 0 = .ok (.aload_n 0, 1) := by decide +kernel
theorem dX3_measure_1 : decode cX3_measure 1 = .ok (.aload_n 0, 1) := by decide +kernel
theorem dX3_measure_2 : decode cX3_measure 2 = .ok (.getfield 35, 3) := by decide +kernel
theorem dX3_measure_5 : decode cX3_measure 5 = .ok (.putfield 9, 3) := by decide +kernel
theorem dX3_measure_8 : decode cX3_measure 8 = .ok (.aload_n 0, 1) := by decide +kernel
theorem dX3_measure_9 : decode cX3_measure 9 = .ok (.aload_n 0, 1) := by decide +kernel
theorem dX3_measure_10 : decode cX3_measure 10 = .ok (.getfield 35, 3) := by decide +kernel
theorem dX3_measure_13 : decode cX3_measure 13 = .ok (.putfield 15, 3) := by decide +kernel
theorem dX3_measure_16 : decode cX3_measure 16 = .ok (.aload_n 0, 1) := by decide +kernel
theorem dX3_measure_17 : decode cX3_measure 17 = .ok (.iconst 1, 1) := by decide +kernel
theorem dX3_measure_18 : decode cX3_measure 18 = .ok (.putfield 18, 3) := by decide +kernel
theorem dX3_measure_21 : decode cX3_measure 21 = .ok (.aload_n 0, 1) := by decide +kernel
theorem dX3_measure_22 : decode cX3_measure 22 = .ok (.getfield 21, 3) := by decide +kernel
theorem dX3_measure_25 : decode cX3_measure 25 = .ok (.getstatic 58, 3) := by decide +kernel
theorem dX3_measure_28 : decode cX3_measure 28 = .ok (.if_acmp .ne 10, 3) := by decide +kernel
theorem dX3_measure_31 : decode cX3_measure 31 = .ok (.aload_n 0, 1) := by decide +kernel
theorem dX3_measure_32 : decode cX3_measure 32 = .ok (.invokevirtual 61, 3) := by decide +kernel
theorem dX3_measure_35 : decode cX3_measure 35 = .ok (.goto 38, 3) := by decide +kernel
theorem dX3_measure_38 : decode cX3_measure 38 = .ok (.aload_n 0, 1) := by decide +kernel
theorem dX3_measure_39 : decode cX3_measure 39 = .ok (.getfield 21, 3) := by decide +kernel
theorem dX3_measure_42 : decode cX3_measure 42 = .ok (.getstatic 64, 3) := by decide +kernel
theorem dX3_measure_45 : decode cX3_measure 45 = .ok (.if_acmp .ne 10, 3) := by decide +kernel
theorem dX3_measure_48 : decode cX3_measure 48 = .ok (.aload_n 0, 1) := by decide +kernel
theorem dX3_measure_49 : decode cX3_measure 49 = .ok (.invokevirtual 67, 3) := by decide +kernel
theorem dX3_measure_52 : decode cX3_measure 52 = .ok (.goto 21, 3) := by decide +kernel
theorem dX3_measure_55 : decode cX3_measure 55 = .ok (.aload_n 0, 1) := by decide +kernel
theorem dX3_measure_56 : decode cX3_measure 56 = .ok (.getfield 21, 3) := by decide +kernel
theorem dX3_measure_59 : decode cX3_measure 59 = .ok (.getstatic 47, 3) := by decide +kernel
theorem dX3_measure_62 : decode cX3_measure 62 = .ok (.if_acmp .ne 11, 3) := by decide +kernel
theorem dX3_measure_65 : decode cX3_measure 65 = .ok (.aload_n 0, 1) := by decide +kernel
theorem dX3_measure_66 : decode cX3_measure 66 = .ok (.invokevirtual 70, 3) := by decide +kernel
theorem dX3_measure_69 : decode cX3_measure 69 = .ok (.aload_n 0, 1) := by decide +kernel
theorem dX3_measure_70 : decode cX3_measure 70 = .ok (.invokevirtual 73, 3) := by decide +kernel
theorem dX3_measure_73 : decode cX3_measure 73 = .ok (.aload_n 0, 1) := by decide +kernel
theorem dX3_measure_74 : decode cX3_measure 74 = .ok (.getfield 15, 3) := by decide +kernel
theorem dX3_measure_77 : decode cX3_measure 77 = .ok (.sipush 240, 3) := by decide +kernel
theorem dX3_measure_80 : decode cX3_measure 80 = .ok (.if_icmp .gt 17, 3) := by decide +kernel
theorem dX3_measure_83 : decode cX3_measure 83 = .ok (.aload_n 0, 1) := by decide +kernel
theorem dX3_measure_84 : decode cX3_measure 84 = .ok (.getfield 18, 3) := by decide +kernel
theorem dX3_measure_87 : decode cX3_measure 87 = .ok (.sipush 240, 3) := by decide +kernel
theorem dX3_measure_90 : decode cX3_measure 90 = .ok (.if_icmp .gt 7, 3) := by decide +kernel
theorem dX3_measure_93 : decode cX3_measure 93 = .ok (.iconst 1, 1) := by decide +kernel
theorem dX3_measure_94 : decode cX3_measure 94 = .ok (.goto 4, 3) := by decide +kernel
theorem dX3_measure_97 : decode cX3_measure 97 = .ok (.iconst 0, 1) := by decide +kernel
theorem dX3_measure_98 : decode cX3_measure 98 = .ok (.ireturn, 1) := by decide +kernel
def wb_X3_measure_73 (o : Nat) (kd : Nat → Nat) (post : Int32 → Mm → Prop)   (μ : Mm) : Prop := ∃ f55 g56, μ o = some (.inl (2, f55)) ∧ f55[8]? = some (.int g56) ∧ ((240 : Int32) < g56 → (post (0 : Int32) μ)) ∧ (¬ (240 : Int32) < g56 → (∃ f60 g61, μ o = some (.inl (2, f60)) ∧ f60[9]? = some (.int g61) ∧ ((240 : Int32) < g61 → (post (0 : Int32) μ)) ∧ (¬ (240 : Int32) < g61 → (post (1 : Int32) μ))))
set_option maxHeartbeats 4000000 in
set_option maxRecDepth 100000 in
theorem tb_X3_measure_73 {p : Program} {l : Launch} {e : Env} {s : State} {m : MethodId} {args : Array Value} {below : List Frame} {meth : Method} {c : Code} {G : gG} {A : Nat → Prop} {o : Nat} {kd : Nat → Nat} {post : Int32 → Mm → Prop} (X : Cx p l s m args meth c cX3_measure 1 (some .boolean) RX3 G A) (hkd : G.2.2 = kd) : ∀ (μ : Mm), wb_X3_measure_73 o kd post μ → J p l e (rmL (2) 0 0) s m args below meth c 1 G A (MQ below (QG G A (pI post)) args s 0 0 A) 0 0 73 [(0, .ref o)] [] μ := by
  intro μ hw
  unfold wb_X3_measure_73 at hw
  refine j_aload_n X (pc' := 74) (kk := 0) (i := 0) 0 rfl rfl dX3_measure_73 rfl ?_
  obtain ⟨f55, g56, hm57, hv58, hw1⟩ := hw
  refine j_getf X (pc' := 77) hm57 8 hv58 rfl fw_TX3 (by decide) wt_2_22 dX3_measure_74 rfl ?_
  refine j_sipush X (pc' := 80) (v := 240) (by decide) dX3_measure_77 rfl ?_
  refine j_icmp_gt X (pc' := 83) (tgt := 97) dX3_measure_80 rfl (by decide) (fun c59 => ?_) (fun c59 => ?_)
  · have hw2 := hw1.1 c59
    refine j_iconst X (pc' := 98) (v := 0) (by decide) dX3_measure_97 rfl ?_
    exact j_zret X (Or.inl rfl) ⟨_, rfl, hw2⟩ (Nat.le_of_ble_eq_true rfl) (Nat.le_of_ble_eq_true rfl) dX3_measure_98
  · have hw3 := hw1.2 c59
    refine j_aload_n X (pc' := 84) (kk := 0) (i := 0) 0 rfl rfl dX3_measure_83 rfl ?_
    obtain ⟨f60, g61, hm62, hv63, hw4⟩ := hw3
    refine j_getf X (pc' := 87) hm62 9 hv63 rfl fw_TX3 (by decide) wt_2_24 dX3_measure_84 rfl ?_
    refine j_sipush X (pc' := 90) (v := 240) (by decide) dX3_measure_87 rfl ?_
    refine j_icmp_gt X (pc' := 93) (tgt := 97) dX3_measure_90 rfl (by decide) (fun c64 => ?_) (fun c64 => ?_)
    · have hw5 := hw4.1 c64
      refine j_iconst X (pc' := 98) (v := 0) (by decide) dX3_measure_97 rfl ?_
      exact j_zret X (Or.inl rfl) ⟨_, rfl, hw5⟩ (Nat.le_of_ble_eq_true rfl) (Nat.le_of_ble_eq_true rfl) dX3_measure_98
    · have hw6 := hw4.2 c64
      refine j_iconst X (pc' := 94) (v := 1) (by decide) dX3_measure_93 rfl ?_
      refine j_goto X (tgt := 98) dX3_measure_94 (by decide) ?_
      exact j_zret X (Or.inr rfl) ⟨_, rfl, hw6⟩ (Nat.le_of_ble_eq_true rfl) (Nat.le_of_ble_eq_true rfl) dX3_measure_98
def wp_X3_measure (o : Nat) (kd : Nat → Nat) (μ : Mm) (post : Int32 → Mm → Prop) : Prop := ∃ f1 g2, μ o = some (.inl (2, f1)) ∧ f1[3]? = some (.int g2) ∧ ∃ f5, μ o = some (.inl (2, f5)) ∧ 7 < f5.length ∧ ∀ μ8, μ8 = ups μ o (.inl (2, f5.set 7 (.int g2))) → ∃ f10 g11, μ8 o = some (.inl (2, f10)) ∧ f10[3]? = some (.int g11) ∧ ∃ f14, μ8 o = some (.inl (2, f14)) ∧ 8 < f14.length ∧ ∀ μ17, μ17 = ups μ8 o (.inl (2, f14.set 8 (.int g11))) → ∃ f19, μ17 o = some (.inl (2, f19)) ∧ 9 < f19.length ∧ ∀ μ22, μ22 = ups μ17 o (.inl (2, f19.set 9 (.int (1 : Int32)))) → ∃ f24 g25, μ22 o = some (.inl (2, f24)) ∧ f24[0]? = some (.ref g25) ∧ (¬ some g25 = some (kd 1) → (∃ f29 g30, μ22 o = some (.inl (2, f29)) ∧ f29[0]? = some (.ref g30) ∧ (¬ some g30 = some (kd 3) → (∃ f34 g35, μ22 o = some (.inl (2, f34)) ∧ f34[0]? = some (.ref g35) ∧ (¬ some g35 = some (kd 2) → (wb_X3_measure_73 o kd post μ22)) ∧ (some g35 = some (kd 2) → ((∃ f46, μ22 o = some (.inl (2, f46))) ∧ wp_X3_measureParts o μ22 (fun μ40 => (∃ f44, μ40 o = some (.inl (2, f44))) ∧ wp_X3_measureAdditions o μ40 (fun μ42 => wb_X3_measure_73 o kd post μ42)))))) ∧ (some g30 = some (kd 3) → ((∃ f50, μ22 o = some (.inl (2, f50))) ∧ wp_X3_measureChoices o μ22 (fun μ48 => wb_X3_measure_73 o kd post μ48))))) ∧ (some g25 = some (kd 1) → ((∃ f54, μ22 o = some (.inl (2, f54))) ∧ wp_X3_measureThings o μ22 (fun μ52 => wb_X3_measure_73 o kd post μ52)))
set_option maxHeartbeats 4000000 in
set_option maxRecDepth 100000 in
theorem c_X3_measure (l : Launch) (G : gG) (A : Nat → Prop) (kd : Nat → Nat) (hkd : G.2.2 = kd) (o : Nat) (μ : Mm) (post : Int32 → Mm → Prop) (h : wp_X3_measure o kd μ post) : Met l yX3_measure (.code yX3_measure cX3_measure 1 (some .boolean) :: wsA) (rmL (2) 0 0) (PcG G A μ [.ref o]) (QG G A (pI post)) 0 0 A := by
  refine met_J (loc := [(0, .ref o)]) (by decide +kernel) (Nat.le_of_ble_eq_true rfl) rfl ?_
  intro p e s m args below meth c X hin
  have X : Cx p l s m args meth c cX3_measure 1 (some .boolean) RX3 G A := X
  have hw := h
  unfold wp_X3_measure at hw
  refine j_aload_n X (pc' := 1) (kk := 0) (i := 0) 0 rfl rfl dX3_measure_0 rfl ?_
  refine j_aload_n X (pc' := 2) (kk := 0) (i := 0) 0 rfl rfl dX3_measure_1 rfl ?_
  obtain ⟨f1, g2, hm3, hv4, hw1⟩ := hw
  refine j_getf X (pc' := 5) hm3 3 hv4 rfl fw_TX3 (by decide) wt_2_9 dX3_measure_2 rfl ?_
  obtain ⟨f5, hm6, hl7, hw2⟩ := hw1
  refine jp_putf X (pc' := 8) (ty := .int) hm6 7 hl7 rfl fw_TX3 tyX3_ok nmX3 (by decide) rfl wt_2_20 (by decide +kernel) rfl rfl dX3_measure_5 rfl (fun μ8 e9 => ?_)
  have hw3 := hw2 μ8 e9
  refine j_aload_n X (pc' := 9) (kk := 0) (i := 0) 0 rfl rfl dX3_measure_8 rfl ?_
  refine j_aload_n X (pc' := 10) (kk := 0) (i := 0) 0 rfl rfl dX3_measure_9 rfl ?_
  obtain ⟨f10, g11, hm12, hv13, hw4⟩ := hw3
  refine j_getf X (pc' := 13) hm12 3 hv13 rfl fw_TX3 (by decide) wt_2_9 dX3_measure_10 rfl ?_
  obtain ⟨f14, hm15, hl16, hw5⟩ := hw4
  refine jp_putf X (pc' := 16) (ty := .int) hm15 8 hl16 rfl fw_TX3 tyX3_ok nmX3 (by decide) rfl wt_2_22 (by decide +kernel) rfl rfl dX3_measure_13 rfl (fun μ17 e18 => ?_)
  have hw6 := hw5 μ17 e18
  refine j_aload_n X (pc' := 17) (kk := 0) (i := 0) 0 rfl rfl dX3_measure_16 rfl ?_
  refine j_iconst X (pc' := 18) (v := 1) (by decide) dX3_measure_17 rfl ?_
  obtain ⟨f19, hm20, hl21, hw7⟩ := hw6
  refine jp_putf X (pc' := 21) (ty := .int) hm20 9 hl21 rfl fw_TX3 tyX3_ok nmX3 (by decide) rfl wt_2_24 (by decide +kernel) rfl rfl dX3_measure_18 rfl (fun μ22 e23 => ?_)
  have hw8 := hw7 μ22 e23
  refine j_aload_n X (pc' := 22) (kk := 0) (i := 0) 0 rfl rfl dX3_measure_21 rfl ?_
  obtain ⟨f24, g25, hm26, hv27, hw9⟩ := hw8
  refine j_getf X (pc' := 25) hm26 0 hv27 rfl fw_TX3 (by decide) wt_1_239 dX3_measure_22 rfl ?_
  refine jp_kind X (pc' := 28) hkd 1 (by decide) wt_2_58 dX3_measure_25 rfl ?_
  refine j_acmp_ne X (rx := some g25) (ry := some (kd 1)) (pc' := 31) (tgt := 38) dX3_measure_28 rfl (by decide) (fun c28 => ?_) (fun c28 => ?_)
  · have hw10 := hw9.1 c28
    refine j_aload_n X (pc' := 39) (kk := 0) (i := 0) 0 rfl rfl dX3_measure_38 rfl ?_
    obtain ⟨f29, g30, hm31, hv32, hw11⟩ := hw10
    refine j_getf X (pc' := 42) hm31 0 hv32 rfl fw_TX3 (by decide) wt_1_239 dX3_measure_39 rfl ?_
    refine jp_kind X (pc' := 45) hkd 3 (by decide) wt_2_68 dX3_measure_42 rfl ?_
    refine j_acmp_ne X (rx := some g30) (ry := some (kd 3)) (pc' := 48) (tgt := 55) dX3_measure_45 rfl (by decide) (fun c33 => ?_) (fun c33 => ?_)
    · have hw12 := hw11.1 c33
      refine j_aload_n X (pc' := 56) (kk := 0) (i := 0) 0 rfl rfl dX3_measure_55 rfl ?_
      obtain ⟨f34, g35, hm36, hv37, hw13⟩ := hw12
      refine j_getf X (pc' := 59) hm36 0 hv37 rfl fw_TX3 (by decide) wt_1_239 dX3_measure_56 rfl ?_
      refine jp_kind X (pc' := 62) hkd 2 (by decide) wt_1_236 dX3_measure_59 rfl ?_
      refine j_acmp_ne X (rx := some g35) (ry := some (kd 2)) (pc' := 65) (tgt := 73) dX3_measure_62 rfl (by decide) (fun c38 => ?_) (fun c38 => ?_)
      · have hw14 := hw13.1 c38
        exact tb_X3_measure_73 X hkd  _ hw14
      · have hw15 := hw13.2 c38
        refine j_aload_n X (pc' := 66) (kk := 0) (i := 0) 0 rfl rfl dX3_measure_65 rfl ?_
        obtain ⟨⟨f46, hm45⟩, hw16⟩ := hw15
        refine j_callVv (As := []) (rest := []) X (pc' := 69) (cells' := 0) (slots' := 0) (c_X3_measureParts l G A o μ22 _ hw16) (gk_X3_measureParts wt_2_79) hd_X3_measureParts (rmL_fit (k1 := 1) (k := 2) (by omega) (by decide)) hm45 rfl rfl rfl (Nat.le_of_ble_eq_true rfl) dX3_measure_66 rfl ⟨Nat.le_of_ble_eq_true rfl, Nat.le_of_ble_eq_true rfl⟩ rfl rfl (fun μ40 hw17 => ?_)
        refine j_aload_n X (pc' := 70) (kk := 0) (i := 0) 0 rfl rfl dX3_measure_69 rfl ?_
        obtain ⟨⟨f44, hm43⟩, hw18⟩ := hw17
        refine j_callVv (As := []) (rest := []) X (pc' := 73) (cells' := 0) (slots' := 0) (c_X3_measureAdditions l G A o μ40 _ hw18) (gk_X3_measureAdditions wt_2_87) hd_X3_measureAdditions (rmL_fit (k1 := 1) (k := 2) (by omega) (by decide)) hm43 rfl rfl rfl (Nat.le_of_ble_eq_true rfl) dX3_measure_70 rfl ⟨Nat.le_of_ble_eq_true rfl, Nat.le_of_ble_eq_true rfl⟩ rfl rfl (fun μ42 hw19 => ?_)
        exact tb_X3_measure_73 X hkd  _ hw19
    · have hw20 := hw11.2 c33
      refine j_aload_n X (pc' := 49) (kk := 0) (i := 0) 0 rfl rfl dX3_measure_48 rfl ?_
      obtain ⟨⟨f50, hm49⟩, hw21⟩ := hw20
      refine j_callVv (As := []) (rest := []) X (pc' := 52) (cells' := 0) (slots' := 0) (c_X3_measureChoices l G A o μ22 _ hw21) (gk_X3_measureChoices wt_2_70) hd_X3_measureChoices (rmL_fit (k1 := 1) (k := 2) (by omega) (by decide)) hm49 rfl rfl rfl (Nat.le_of_ble_eq_true rfl) dX3_measure_49 rfl ⟨Nat.le_of_ble_eq_true rfl, Nat.le_of_ble_eq_true rfl⟩ rfl rfl (fun μ48 hw22 => ?_)
      refine j_goto X (tgt := 73) dX3_measure_52 (by decide) ?_
      exact tb_X3_measure_73 X hkd  _ hw22
  · have hw23 := hw9.2 c28
    refine j_aload_n X (pc' := 32) (kk := 0) (i := 0) 0 rfl rfl dX3_measure_31 rfl ?_
    obtain ⟨⟨f54, hm53⟩, hw24⟩ := hw23
    refine j_callVv (As := []) (rest := []) X (pc' := 35) (cells' := 0) (slots' := 0) (c_X3_measureThings l G A o μ22 _ hw24) (gk_X3_measureThings wt_2_60) hd_X3_measureThings (rmL_fit (k1 := 1) (k := 2) (by omega) (by decide)) hm53 rfl rfl rfl (Nat.le_of_ble_eq_true rfl) dX3_measure_32 rfl ⟨Nat.le_of_ble_eq_true rfl, Nat.le_of_ble_eq_true rfl⟩ rfl rfl (fun μ52 hw25 => ?_)
    refine j_goto X (tgt := 73) dX3_measure_35 (by decide) ?_
    exact tb_X3_measure_73 X hkd  _ hw25
/-! BitNotation$TypeRow.measureAll()Z -/
theorem dX4_measureAll_0 : decode cX4_measureAll 0 = .ok (.iconst 0, 1) := by decide +kernel
theorem dX4_measureAll_1 : decode cX4_measureAll 1 = .ok (.istore_n 1, 1) := by decide +kernel
theorem dX4_measureAll_2 : decode cX4_measureAll 2 = .ok (.iload_n 1, 1) := by decide +kernel
theorem dX4_measureAll_3 : decode cX4_measureAll 3 = .ok (.aload_n 0, 1) := by decide +kernel
theorem dX4_measureAll_4 : decode cX4_measureAll 4 = .ok (.getfield 7, 3) := by decide +kernel
theorem dX4_measureAll_7 : decode cX4_measureAll 7 = .ok (.if_icmp .ge 28, 3) := by decide +kernel
theorem dX4_measureAll_10 : decode cX4_measureAll 10 = .ok (.aload_n 0, 1) := by decide +kernel
theorem dX4_measureAll_11 : decode cX4_measureAll 11 = .ok (.iload_n 1, 1) := by decide +kernel
theorem dX4_measureAll_12 : decode cX4_measureAll 12 = .ok (.invokevirtual 25, 3) := by decide +kernel
theorem dX4_measureAll_15 : decode cX4_measureAll 15 = .ok (.astore_n 2, 1) := by decide +kernel
theorem dX4_measureAll_16 : decode cX4_measureAll 16 = .ok (.aload_n 2, 1) := by decide +kernel
theorem dX4_measureAll_17 : decode cX4_measureAll 17 = .ok (.ifnull 12, 3) := by decide +kernel
theorem dX4_measureAll_20 : decode cX4_measureAll 20 = .ok (.aload_n 2, 1) := by decide +kernel
theorem dX4_measureAll_21 : decode cX4_measureAll 21 = .ok (.invokevirtual 29, 3) := by decide +kernel
theorem dX4_measureAll_24 : decode cX4_measureAll 24 = .ok (.ifCond .ne 5, 3) := by decide +kernel
theorem dX4_measureAll_27 : decode cX4_measureAll 27 = .ok (.iconst 0, 1) := by decide +kernel
theorem dX4_measureAll_28 : decode cX4_measureAll 28 = .ok (.ireturn, 1) := by decide +kernel
theorem dX4_measureAll_29 : decode cX4_measureAll 29 = .ok (.iinc 1 1, 3) := by decide +kernel
theorem dX4_measureAll_32 : decode cX4_measureAll 32 = .ok (.goto (-30), 3) := by decide +kernel
theorem dX4_measureAll_35 : decode cX4_measureAll 35 = .ok (.iconst 1, 1) := by decide +kernel
theorem dX4_measureAll_36 : decode cX4_measureAll 36 = .ok (.ireturn, 1) := by decide +kernel
def wb_X4_measureAll_2 (o : Nat) (kd : Nat → Nat) (post : Int32 → Mm → Prop)  : Nat → Int32 → Mm → Prop
  | 0 => fun _ _ => False
  | n + 1 => fun v1 μ => ∃ f1 g2, μ o = some (.inl (3, f1)) ∧ f1[1]? = some (.int g2) ∧ (g2 ≤ v1 → (post (1 : Int32) μ)) ∧ (¬ g2 ≤ v1 → ((∃ f16, μ o = some (.inl (3, f16))) ∧ wp_X4_at o v1 μ (fun r6 μ7 => (r6 = none → (wb_X4_measureAll_2 o kd post n (v1 + 1) μ7)) ∧ (∀ a9, r6 = some a9 → ((∃ f14, μ7 a9 = some (.inl (2, f14))) ∧ wp_X3_measure a9 kd μ7 (fun r10 μ11 => (¬ r10 = 0 → (wb_X4_measureAll_2 o kd post n (v1 + 1) μ11)) ∧ (r10 = 0 → (post (0 : Int32) μ11))))))))
set_option maxHeartbeats 4000000 in
set_option maxRecDepth 100000 in
theorem tb_X4_measureAll_2 {p : Program} {l : Launch} {e : Env} {s : State} {m : MethodId} {args : Array Value} {below : List Frame} {meth : Method} {c : Code} {G : gG} {A : Nat → Prop} {o : Nat} {kd : Nat → Nat} {post : Int32 → Mm → Prop} (X : Cx p l s m args meth c cX4_measureAll 3 (some .boolean) RX4 G A) (hkd : G.2.2 = kd) : ∀ (n : Nat) (v1 : Int32) (μ : Mm), wb_X4_measureAll_2 o kd post n v1 μ → J p l e (rmL (3) 0 0) s m args below meth c 3 G A (MQ below (QG G A (pI post)) args s 0 0 A) 0 0 2 [(0, .ref o), (1, .int v1)] [] μ := by
  intro n
  induction n with
  | zero => intro v1 μ hw; exact hw.elim
  | succ n ih =>
    intro v1 μ hw
    rw [wb_X4_measureAll_2] at hw
    refine j_iload_n X (pc' := 3) (kk := 1) (i := 1) 1 rfl rfl dX4_measureAll_2 rfl ?_
    refine j_aload_n X (pc' := 4) (kk := 0) (i := 0) 0 rfl rfl dX4_measureAll_3 rfl ?_
    obtain ⟨f1, g2, hm3, hv4, hw1⟩ := hw
    refine j_getf X (pc' := 7) hm3 1 hv4 rfl fw_TX4 (by decide) wt_1_36 dX4_measureAll_4 rfl ?_
    refine j_icmp_ge X (pc' := 10) (tgt := 35) dX4_measureAll_7 rfl (by decide) (fun c5 => ?_) (fun c5 => ?_)
    · have hw2 := hw1.1 c5
      refine j_iconst X (pc' := 36) (v := 1) (by decide) dX4_measureAll_35 rfl ?_
      exact j_zret X (Or.inr rfl) ⟨_, rfl, hw2⟩ (Nat.le_of_ble_eq_true rfl) (Nat.le_of_ble_eq_true rfl) dX4_measureAll_36
    · have hw3 := hw1.2 c5
      refine j_aload_n X (pc' := 11) (kk := 0) (i := 0) 0 rfl rfl dX4_measureAll_10 rfl ?_
      refine j_iload_n X (pc' := 12) (kk := 1) (i := 1) 1 rfl rfl dX4_measureAll_11 rfl ?_
      obtain ⟨⟨f16, hm15⟩, hw4⟩ := hw3
      refine j_callVq (As := [.int v1]) (rest := []) X (pc' := 15) (cells' := 0) (slots' := 0) (c_X4_at l G A o v1 μ _ hw4) (gk_X4_at wt_2_167) hd_X4_at (rmL_fit (k1 := 0) (k := 3) (by omega) (by decide)) hm15 rfl rfl rfl (Nat.le_of_ble_eq_true rfl) dX4_measureAll_12 rfl ⟨Nat.le_of_ble_eq_true rfl, Nat.le_of_ble_eq_true rfl⟩ rfl rfl (fun r6 μ7 hw5 => ?_)
      refine j_astore_nq X (pc' := 16) (kk := 2) (i := 2) (x := r6) (loc' := [(2, va_rf r6), (0, .ref o), (1, .int v1)]) dX4_measureAll_15 rfl rfl (by decide) rfl ?_
      refine j_aload_nq X (pc' := 17) (kk := 2) (i := 2) (x := r6) 0 rfl rfl dX4_measureAll_16 rfl ?_
      refine j_ifnull X (pc' := 20) (x := r6) (tgt := 29) dX4_measureAll_17 rfl (by decide) (fun c8 => ?_) (fun a9 c8 => ?_)
      · have hw6 := hw5.1 c8
        refine j_iinc X (pc' := 32) (i := 1) (v := v1 + 1) (loc' := [(1, .int (v1 + 1)), (2, va_rf r6), (0, .ref o)]) 2 rfl rfl dX4_measureAll_29 rfl (by decide) rfl ?_
        refine j_goto X (tgt := 2) dX4_measureAll_32 (by decide) ?_
        refine j_loc [2, 0] rfl ?_
        exact ih _ _ hw6
      · have hw7 := hw5.2 a9 c8
        subst c8
        refine j_aload_n X (pc' := 21) (kk := 2) (i := 2) 0 rfl rfl dX4_measureAll_20 rfl ?_
        obtain ⟨⟨f14, hm13⟩, hw8⟩ := hw7
        refine j_callVi (As := []) (rest := []) X (pc' := 24) (cells' := 0) (slots' := 0) (c_X3_measure l G A kd hkd a9 μ7 _ hw8) (gk_X3_measure wt_2_168) hd_X3_measure (rmL_fit (k1 := 2) (k := 3) (by omega) (by decide)) hm13 rfl rfl rfl (Nat.le_of_ble_eq_true rfl) dX4_measureAll_21 rfl ⟨Nat.le_of_ble_eq_true rfl, Nat.le_of_ble_eq_true rfl⟩ rfl rfl (fun r10 μ11 hw9 => ?_)
        refine j_if_ne X (pc' := 27) (tgt := 29) dX4_measureAll_24 rfl (by decide) (fun c12 => ?_) (fun c12 => ?_)
        · have hw10 := hw9.1 c12
          refine j_iinc X (pc' := 32) (i := 1) (v := v1 + 1) (loc' := [(1, .int (v1 + 1)), (2, .ref a9), (0, .ref o)]) 2 rfl rfl dX4_measureAll_29 rfl (by decide) rfl ?_
          refine j_goto X (tgt := 2) dX4_measureAll_32 (by decide) ?_
          refine j_loc [2, 0] rfl ?_
          exact ih _ _ hw10
        · have hw11 := hw9.2 c12
          refine j_iconst X (pc' := 28) (v := 0) (by decide) dX4_measureAll_27 rfl ?_
          exact j_zret X (Or.inl rfl) ⟨_, rfl, hw11⟩ (Nat.le_of_ble_eq_true rfl) (Nat.le_of_ble_eq_true rfl) dX4_measureAll_28
def wp_X4_measureAll (o : Nat) (kd : Nat → Nat) (μ : Mm) (post : Int32 → Mm → Prop) : Prop := ∃ n, wb_X4_measureAll_2 o kd post n (0 : Int32) μ
set_option maxHeartbeats 4000000 in
set_option maxRecDepth 100000 in
theorem c_X4_measureAll (l : Launch) (G : gG) (A : Nat → Prop) (kd : Nat → Nat) (hkd : G.2.2 = kd) (o : Nat) (μ : Mm) (post : Int32 → Mm → Prop) (h : wp_X4_measureAll o kd μ post) : Met l yX4_measureAll (.code yX4_measureAll cX4_measureAll 3 (some .boolean) :: wsA) (rmL (3) 0 0) (PcG G A μ [.ref o]) (QG G A (pI post)) 0 0 A := by
  refine met_J (loc := [(0, .ref o)]) (by decide +kernel) (Nat.le_of_ble_eq_true rfl) rfl ?_
  intro p e s m args below meth c X hin
  have X : Cx p l s m args meth c cX4_measureAll 3 (some .boolean) RX4 G A := X
  have hw := h
  unfold wp_X4_measureAll at hw
  refine j_iconst X (pc' := 1) (v := 0) (by decide) dX4_measureAll_0 rfl ?_
  refine j_istore_n X (pc' := 2) (kk := 1) (i := 1) (loc' := [(1, .int ((0 : Int32))), (0, .ref o)]) dX4_measureAll_1 rfl rfl (by decide) rfl ?_
  obtain ⟨n0, hw1⟩ := hw
  refine j_loc [1, 0] rfl ?_
  exact tb_X4_measureAll_2 X hkd n0 _ _ hw1
