/-! BitNotation.<init>()V -/
theorem dX6_init_0 : decode cX6_init 0 = .ok (.aload_n 0, 1) := by decide +kernel
theorem dX6_init_1 : decode cX6_init 1 = .ok (.invokespecial 1, 3) := by decide +kernel
theorem dX6_init_4 : decode cX6_init 4 = .ok (.aload_n 0, 1) := by decide +kernel
theorem dX6_init_5 : decode cX6_init 5 = .ok (.new 7, 3) := by decide +kernel
theorem dX6_init_8 : decode cX6_init 8 = .ok (.dup, 1) := by decide +kernel
theorem dX6_init_9 : decode cX6_init 9 = .ok (.bipush 16, 2) := by decide +kernel
theorem dX6_init_11 : decode cX6_init 11 = .ok (.invokespecial 11, 3) := by decide +kernel
theorem dX6_init_14 : decode cX6_init 14 = .ok (.putfield 14, 3) := by decide +kernel
theorem dX6_init_17 : decode cX6_init 17 = .ok (.aload_n 0, 1) := by decide +kernel
theorem dX6_init_18 : decode cX6_init 18 = .ok (.new 18, 3) := by decide +kernel
theorem dX6_init_21 : decode cX6_init 21 = .ok (.dup, 1) := by decide +kernel
theorem dX6_init_22 : decode cX6_init 22 = .ok (.sipush 300, 3) := by decide +kernel
theorem dX6_init_25 : decode cX6_init 25 = .ok (.invokespecial 20, 3) := by decide +kernel
theorem dX6_init_28 : decode cX6_init 28 = .ok (.putfield 21, 3) := by decide +kernel
theorem dX6_init_31 : decode cX6_init 31 = .ok (.aload_n 0, 1) := by decide +kernel
theorem dX6_init_32 : decode cX6_init 32 = .ok (.new 18, 3) := by decide +kernel
theorem dX6_init_35 : decode cX6_init 35 = .ok (.dup, 1) := by decide +kernel
theorem dX6_init_36 : decode cX6_init 36 = .ok (.sipush 240, 3) := by decide +kernel
theorem dX6_init_39 : decode cX6_init 39 = .ok (.invokespecial 20, 3) := by decide +kernel
theorem dX6_init_42 : decode cX6_init 42 = .ok (.putfield 25, 3) := by decide +kernel
theorem dX6_init_45 : decode cX6_init 45 = .ok (.aload_n 0, 1) := by decide +kernel
theorem dX6_init_46 : decode cX6_init 46 = .ok (.new 28, 3) := by decide +kernel
theorem dX6_init_49 : decode cX6_init 49 = .ok (.dup, 1) := by decide +kernel
theorem dX6_init_50 : decode cX6_init 50 = .ok (.invokespecial 30, 3) := by decide +kernel
theorem dX6_init_53 : decode cX6_init 53 = .ok (.putfield 31, 3) := by decide +kernel
theorem dX6_init_56 : decode cX6_init 56 = .ok (.aload_n 0, 1) := by decide +kernel
theorem dX6_init_57 : decode cX6_init 57 = .ok (.new 35, 3) := by decide +kernel
theorem dX6_init_60 : decode cX6_init 60 = .ok (.dup, 1) := by decide +kernel
theorem dX6_init_61 : decode cX6_init 61 = .ok (.invokespecial 37, 3) := by decide +kernel
theorem dX6_init_64 : decode cX6_init 64 = .ok (.putfield 38, 3) := by decide +kernel
theorem dX6_init_67 : decode cX6_init 67 = .ok (.aload_n 0, 1) := by decide +kernel
theorem dX6_init_68 : decode cX6_init 68 = .ok (.new 7, 3) := by decide +kernel
theorem dX6_init_71 : decode cX6_init 71 = .ok (.dup, 1) := by decide +kernel
theorem dX6_init_72 : decode cX6_init 72 = .ok (.bipush 6, 2) := by decide +kernel
theorem dX6_init_74 : decode cX6_init 74 = .ok (.invokespecial 11, 3) := by decide +kernel
theorem dX6_init_77 : decode cX6_init 77 = .ok (.putfield 42, 3) := by decide +kernel
theorem dX6_init_80 : decode cX6_init 80 = .ok (.aload_n 0, 1) := by decide +kernel
theorem dX6_init_81 : decode cX6_init 81 = .ok (.iconst 0, 1) := by decide +kernel
theorem dX6_init_82 : decode cX6_init 82 = .ok (.putfield 45, 3) := by decide +kernel
theorem dX6_init_85 : decode cX6_init 85 = .ok (.return_, 1) := by decide +kernel
def wp_X6_init (o : Nat) (μ : Mm) (post : Mm → Prop) : Prop := ∀ q1, μ q1 = none → ∀ μ3, μ3 = ups μ q1 (.inl (3, [.null, .int 0])) → wp_X4_init q1 16 (16 : Int32) μ3 (fun μ6 => ∃ f7, μ6 o = some (.inl (5, f7)) ∧ 0 < f7.length ∧ ∀ μ10, μ10 = ups μ6 o (.inl (5, f7.set 0 (.ref q1))) → ∀ q12, μ10 q12 = none → ∀ μ14, μ14 = ups μ10 q12 (.inl (1, [.null, .int 0])) → wp_X2_init q12 300 (300 : Int32) μ14 (fun μ17 => ∃ f18, μ17 o = some (.inl (5, f18)) ∧ 1 < f18.length ∧ ∀ μ21, μ21 = ups μ17 o (.inl (5, f18.set 1 (.ref q12))) → ∀ q23, μ21 q23 = none → ∀ μ25, μ25 = ups μ21 q23 (.inl (1, [.null, .int 0])) → wp_X2_init q23 240 (240 : Int32) μ25 (fun μ28 => ∃ f29, μ28 o = some (.inl (5, f29)) ∧ 2 < f29.length ∧ ∀ μ32, μ32 = ups μ28 o (.inl (5, f29.set 2 (.ref q23))) → ∀ q34, μ32 q34 = none → ∀ μ36, μ36 = ups μ32 q34 (.inl (4, [.null, .int 0, .int 0])) → wp_X5_init q34 μ36 (fun μ39 => ∃ f40, μ39 o = some (.inl (5, f40)) ∧ 3 < f40.length ∧ ∀ μ43, μ43 = ups μ39 o (.inl (5, f40.set 3 (.ref q34))) → ∀ q45, μ43 q45 = none → ∀ μ47, μ47 = ups μ43 q45 (.inl (0, [.null, .int 0, .int 0, .int 0])) → wp_X1_init q45 μ47 (fun μ50 => ∃ f51, μ50 o = some (.inl (5, f51)) ∧ 4 < f51.length ∧ ∀ μ54, μ54 = ups μ50 o (.inl (5, f51.set 4 (.ref q45))) → ∀ q56, μ54 q56 = none → ∀ μ58, μ58 = ups μ54 q56 (.inl (3, [.null, .int 0])) → wp_X4_init q56 6 (6 : Int32) μ58 (fun μ61 => ∃ f62, μ61 o = some (.inl (5, f62)) ∧ 5 < f62.length ∧ ∀ μ65, μ65 = ups μ61 o (.inl (5, f62.set 5 (.ref q56))) → ∃ f67, μ65 o = some (.inl (5, f67)) ∧ 6 < f67.length ∧ ∀ μ70, μ70 = ups μ65 o (.inl (5, f67.set 6 (.int (0 : Int32)))) → post μ70))))))
set_option maxHeartbeats 4000000 in
set_option maxRecDepth 100000 in
theorem c_X6_init (l : Launch) (G : gG) (A : Nat → Prop) (o : Nat) (μ : Mm) (post : Mm → Prop) (h : wp_X6_init o μ post) : Met l yX6_init (.code yX6_init cX6_init 1 none :: wsA) (rmL (2) 14 1061) (PcG G A μ [.ref o]) (QG G A (pV post)) 14 1061 A := by
  refine met_J (loc := [(0, .ref o)]) (by decide +kernel) (Nat.le_of_ble_eq_true rfl) rfl ?_
  intro p e s m args below meth c X hin
  have X : Cx p l s m args meth c cX6_init 1 none RX6 G A := X
  have hw := h
  unfold wp_X6_init at hw
  refine j_aload_n X (pc' := 1) (kk := 0) (i := 0) 0 rfl rfl dX6_init_0 rfl ?_
  refine j_objInit X (pc' := 4) wt_1_21 wt_1_22 wt_1_23 (by show 1 ≤ _ + 6; omega) (Nat.le_trans (m := 120) (Nat.le_of_ble_eq_true rfl) (by show 120 ≤ 40 * _ + 120; omega)) dX6_init_1 rfl ?_
  refine j_aload_n X (pc' := 5) (kk := 0) (i := 0) 0 rfl rfl dX6_init_4 rfl ?_
  refine jp_new X (pc' := 8) (cells' := 1) (slots' := 2) (ci := 3) (fs := [.null, .int 0]) rfl fw_TX4 tyX4_ok wt_1_24 wt_1_25 wt_1_2 df_X4 (Nat.le_of_ble_eq_true rfl) (Nat.le_of_ble_eq_true rfl) rfl rfl dX6_init_5 rfl (fun q1 hq2 μ3 e4 => ?_)
  have hw1 := hw q1 hq2 μ3 e4
  refine j_dup X (pc' := 9) rfl dX6_init_8 rfl ?_
  refine j_bipush X (pc' := 11) (v := 16) (by decide) dX6_init_9 rfl ?_
  refine j_callIv (As := [.int (16 : Int32)]) (rest := [.ref q1, .ref o]) X (pc' := 14) (cells' := 2) (slots' := 18) (c_X4_init l G A 16 (by decide) q1 (16 : Int32) μ3 _ hw1) wt_1_26 wt_1_27 wt_1_2 wt_1_28 rfl hd_X4_init (rmL_fit (k1 := 0) (k := 2) (by omega) (by decide)) rfl rfl (Nat.le_of_ble_eq_true rfl) dX6_init_11 rfl ⟨Nat.le_of_ble_eq_true rfl, Nat.le_of_ble_eq_true rfl⟩ rfl rfl (fun μ6 hw2 => ?_)
  obtain ⟨f7, hm8, hl9, hw3⟩ := hw2
  refine jp_putF X (pc' := 17) (ty := (.object "BitNotation$TypeRow")) hin hm8 0 hl9 rfl fw_TX6 tyX6_ok nmX6 (by decide) rfl rfl wt_1_98 (by decide +kernel) rfl rfl dX6_init_14 rfl (fun μ10 e11 => ?_)
  have hw4 := hw3 μ10 e11
  refine j_aload_n X (pc' := 18) (kk := 0) (i := 0) 0 rfl rfl dX6_init_17 rfl ?_
  refine jp_new X (pc' := 21) (cells' := 3) (slots' := 20) (ci := 1) (fs := [.null, .int 0]) rfl fw_TX2 tyX2_ok wt_1_42 wt_1_43 wt_1_4 df_X2 (Nat.le_of_ble_eq_true rfl) (Nat.le_of_ble_eq_true rfl) rfl rfl dX6_init_18 rfl (fun q12 hq13 μ14 e15 => ?_)
  have hw5 := hw4 q12 hq13 μ14 e15
  refine j_dup X (pc' := 22) rfl dX6_init_21 rfl ?_
  refine j_sipush X (pc' := 25) (v := 300) (by decide) dX6_init_22 rfl ?_
  refine j_callIv (As := [.int (300 : Int32)]) (rest := [.ref q12, .ref o]) X (pc' := 28) (cells' := 4) (slots' := 320) (c_X2_init l G A 300 (by decide) q12 (300 : Int32) μ14 _ hw5) wt_1_44 wt_1_45 wt_1_4 wt_1_46 rfl hd_X2_init (rmL_fit (k1 := 0) (k := 2) (by omega) (by decide)) rfl rfl (Nat.le_of_ble_eq_true rfl) dX6_init_25 rfl ⟨Nat.le_of_ble_eq_true rfl, Nat.le_of_ble_eq_true rfl⟩ rfl rfl (fun μ17 hw6 => ?_)
  obtain ⟨f18, hm19, hl20, hw7⟩ := hw6
  refine jp_putF X (pc' := 31) (ty := (.object "BitNotation$Row")) hin hm19 1 hl20 rfl fw_TX6 tyX6_ok nmX6 (by decide) rfl rfl wt_1_99 (by decide +kernel) rfl rfl dX6_init_28 rfl (fun μ21 e22 => ?_)
  have hw8 := hw7 μ21 e22
  refine j_aload_n X (pc' := 32) (kk := 0) (i := 0) 0 rfl rfl dX6_init_31 rfl ?_
  refine jp_new X (pc' := 35) (cells' := 5) (slots' := 322) (ci := 1) (fs := [.null, .int 0]) rfl fw_TX2 tyX2_ok wt_1_42 wt_1_43 wt_1_4 df_X2 (Nat.le_of_ble_eq_true rfl) (Nat.le_of_ble_eq_true rfl) rfl rfl dX6_init_32 rfl (fun q23 hq24 μ25 e26 => ?_)
  have hw9 := hw8 q23 hq24 μ25 e26
  refine j_dup X (pc' := 36) rfl dX6_init_35 rfl ?_
  refine j_sipush X (pc' := 39) (v := 240) (by decide) dX6_init_36 rfl ?_
  refine j_callIv (As := [.int (240 : Int32)]) (rest := [.ref q23, .ref o]) X (pc' := 42) (cells' := 6) (slots' := 562) (c_X2_init l G A 240 (by decide) q23 (240 : Int32) μ25 _ hw9) wt_1_44 wt_1_45 wt_1_4 wt_1_46 rfl hd_X2_init (rmL_fit (k1 := 0) (k := 2) (by omega) (by decide)) rfl rfl (Nat.le_of_ble_eq_true rfl) dX6_init_39 rfl ⟨Nat.le_of_ble_eq_true rfl, Nat.le_of_ble_eq_true rfl⟩ rfl rfl (fun μ28 hw10 => ?_)
  obtain ⟨f29, hm30, hl31, hw11⟩ := hw10
  refine jp_putF X (pc' := 45) (ty := (.object "BitNotation$Row")) hin hm30 2 hl31 rfl fw_TX6 tyX6_ok nmX6 (by decide) rfl rfl wt_1_100 (by decide +kernel) rfl rfl dX6_init_42 rfl (fun μ32 e33 => ?_)
  have hw12 := hw11 μ32 e33
  refine j_aload_n X (pc' := 46) (kk := 0) (i := 0) 0 rfl rfl dX6_init_45 rfl ?_
  refine jp_new X (pc' := 49) (cells' := 7) (slots' := 565) (ci := 4) (fs := [.null, .int 0, .int 0]) rfl fw_TX5 tyX5_ok wt_1_57 wt_1_58 wt_1_5 df_X5 (Nat.le_of_ble_eq_true rfl) (Nat.le_of_ble_eq_true rfl) rfl rfl dX6_init_46 rfl (fun q34 hq35 μ36 e37 => ?_)
  have hw13 := hw12 q34 hq35 μ36 e37
  refine j_dup X (pc' := 50) rfl dX6_init_49 rfl ?_
  refine j_callINv (As := []) (rest := [.ref q34, .ref o]) X (pc' := 53) (cells' := 9) (slots' := 807) (c_X5_init l G A q34 μ36 _ hw13) (List.mem_of_getElem? (i := 0) rfl) wt_1_60 wt_1_5 wt_1_61 rfl hd_X5_init (rmL_fit (k1 := 1) (k := 2) (by omega) (by decide)) rfl rfl (Nat.le_of_ble_eq_true rfl) dX6_init_50 rfl ⟨Nat.le_of_ble_eq_true rfl, Nat.le_of_ble_eq_true rfl⟩ rfl rfl (fun μ39 hw14 => ?_)
  obtain ⟨f40, hm41, hl42, hw15⟩ := hw14
  refine jp_putF X (pc' := 56) (ty := (.object "BitNotation$Writer")) hin hm41 3 hl42 rfl fw_TX6 tyX6_ok nmX6 (by decide) rfl rfl wt_1_101 (by decide +kernel) rfl rfl dX6_init_53 rfl (fun μ43 e44 => ?_)
  have hw16 := hw15 μ43 e44
  refine j_aload_n X (pc' := 57) (kk := 0) (i := 0) 0 rfl rfl dX6_init_56 rfl ?_
  refine jp_new X (pc' := 60) (cells' := 10) (slots' := 811) (ci := 0) (fs := [.null, .int 0, .int 0, .int 0]) rfl fw_TX1 tyX1_ok wt_1_76 wt_1_77 wt_1_6 df_X1 (Nat.le_of_ble_eq_true rfl) (Nat.le_of_ble_eq_true rfl) rfl rfl dX6_init_57 rfl (fun q45 hq46 μ47 e48 => ?_)
  have hw17 := hw16 q45 hq46 μ47 e48
  refine j_dup X (pc' := 61) rfl dX6_init_60 rfl ?_
  refine j_callINv (As := []) (rest := [.ref q45, .ref o]) X (pc' := 64) (cells' := 12) (slots' := 1053) (c_X1_init l G A q45 μ47 _ hw17) (List.mem_of_getElem? (i := 1) rfl) wt_1_79 wt_1_6 wt_1_80 rfl hd_X1_init (rmL_fit (k1 := 1) (k := 2) (by omega) (by decide)) rfl rfl (Nat.le_of_ble_eq_true rfl) dX6_init_61 rfl ⟨Nat.le_of_ble_eq_true rfl, Nat.le_of_ble_eq_true rfl⟩ rfl rfl (fun μ50 hw18 => ?_)
  obtain ⟨f51, hm52, hl53, hw19⟩ := hw18
  refine jp_putF X (pc' := 67) (ty := (.object "BitNotation$Reader")) hin hm52 4 hl53 rfl fw_TX6 tyX6_ok nmX6 (by decide) rfl rfl wt_1_102 (by decide +kernel) rfl rfl dX6_init_64 rfl (fun μ54 e55 => ?_)
  have hw20 := hw19 μ54 e55
  refine j_aload_n X (pc' := 68) (kk := 0) (i := 0) 0 rfl rfl dX6_init_67 rfl ?_
  refine jp_new X (pc' := 71) (cells' := 13) (slots' := 1055) (ci := 3) (fs := [.null, .int 0]) rfl fw_TX4 tyX4_ok wt_1_24 wt_1_25 wt_1_2 df_X4 (Nat.le_of_ble_eq_true rfl) (Nat.le_of_ble_eq_true rfl) rfl rfl dX6_init_68 rfl (fun q56 hq57 μ58 e59 => ?_)
  have hw21 := hw20 q56 hq57 μ58 e59
  refine j_dup X (pc' := 72) rfl dX6_init_71 rfl ?_
  refine j_bipush X (pc' := 74) (v := 6) (by decide) dX6_init_72 rfl ?_
  refine j_callIv (As := [.int (6 : Int32)]) (rest := [.ref q56, .ref o]) X (pc' := 77) (cells' := 14) (slots' := 1061) (c_X4_init l G A 6 (by decide) q56 (6 : Int32) μ58 _ hw21) wt_1_26 wt_1_27 wt_1_2 wt_1_28 rfl hd_X4_init (rmL_fit (k1 := 0) (k := 2) (by omega) (by decide)) rfl rfl (Nat.le_of_ble_eq_true rfl) dX6_init_74 rfl ⟨Nat.le_of_ble_eq_true rfl, Nat.le_of_ble_eq_true rfl⟩ rfl rfl (fun μ61 hw22 => ?_)
  obtain ⟨f62, hm63, hl64, hw23⟩ := hw22
  refine jp_putf X (pc' := 80) (ty := (.object "BitNotation$TypeRow")) hm63 5 hl64 rfl fw_TX6 tyX6_ok nmX6 (by decide) rfl wt_1_103 (by decide +kernel) rfl rfl dX6_init_77 rfl (fun μ65 e66 => ?_)
  have hw24 := hw23 μ65 e66
  refine j_aload_n X (pc' := 81) (kk := 0) (i := 0) 0 rfl rfl dX6_init_80 rfl ?_
  refine j_iconst X (pc' := 82) (v := 0) (by decide) dX6_init_81 rfl ?_
  obtain ⟨f67, hm68, hl69, hw25⟩ := hw24
  refine jp_putf X (pc' := 85) (ty := .int) hm68 6 hl69 rfl fw_TX6 tyX6_ok nmX6 (by decide) rfl wt_1_104 (by decide +kernel) rfl rfl dX6_init_82 rfl (fun μ70 e71 => ?_)
  have hw26 := hw25 μ70 e71
  exact j_vret X ⟨rfl, hw26⟩ (Nat.le_of_ble_eq_true rfl) (Nat.le_of_ble_eq_true rfl) dX6_init_85
/-! BitNotation.keep(LBitNotation$Type;)I -/
theorem dX6_keep_0 : decode cX6_keep 0 = .ok (.aload_n 0, 1) := by decide +kernel
theorem dX6_keep_1 : decode cX6_keep 1 = .ok (.getfield 14, 3) := by decide +kernel
theorem dX6_keep_4 : decode cX6_keep 4 = .ok (.invokevirtual 88, 3) := by decide +kernel
theorem dX6_keep_7 : decode cX6_keep 7 = .ok (.ifCond .ne 10, 3) := by decide +kernel
theorem dX6_keep_10 : decode cX6_keep 10 = .ok (.aload_n 1, 1) := by decide +kernel
theorem dX6_keep_11 : decode cX6_keep 11 = .ok (.invokevirtual 192, 3) := by decide +kernel
theorem dX6_keep_14 : decode cX6_keep 14 = .ok (.ifCond .ne 13, 3) := by decide +kernel
theorem dX6_keep_17 : decode cX6_keep 17 = .ok (.new 92, 3) := by decide +kernel
theorem dX6_keep_20 : decode cX6_keep 20 = .ok (.dup, 1) := by decide +kernel
theorem dX6_keep_21 : decode cX6_keep 21 = .ok (.ldc 195, 2) := by decide +kernel
theorem dX6_keep_23 : decode cX6_keep 23 = .ok (.invokespecial 96, 3) := by decide +kernel
theorem dX6_keep_26 : decode cX6_keep 26 = .ok (.athrow, 1) := by decide +kernel
theorem dX6_keep_27 : decode cX6_keep 27 = .ok (.aload_n 0, 1) := by decide +kernel
theorem dX6_keep_28 : decode cX6_keep 28 = .ok (.getfield 14, 3) := by decide +kernel
theorem dX6_keep_31 : decode cX6_keep 31 = .ok (.aload_n 1, 1) := by decide +kernel
theorem dX6_keep_32 : decode cX6_keep 32 = .ok (.invokevirtual 81, 3) := by decide +kernel
theorem dX6_keep_35 : decode cX6_keep 35 = .ok (.aload_n 0, 1) := by decide +kernel
theorem dX6_keep_36 : decode cX6_keep 36 = .ok (.getfield 14, 3) := by decide +kernel
theorem dX6_keep_39 : decode cX6_keep 39 = .ok (.invokevirtual 97, 3) := by decide +kernel
theorem dX6_keep_42 : decode cX6_keep 42 = .ok (.iconst 1, 1) := by decide +kernel
theorem dX6_keep_43 : decode cX6_keep 43 = .ok (.isub, 1) := by decide +kernel
theorem dX6_keep_44 : decode cX6_keep 44 = .ok (.ireturn, 1) := by decide +kernel
def wb_X6_keep_17 (o : Nat) (kd : Nat → Nat) (post : Int32 → Mm → Prop) (px : String → Mm → Prop)   (μ : Mm) : Prop := px "java/lang/IllegalStateException" μ
set_option maxHeartbeats 4000000 in
set_option maxRecDepth 100000 in
theorem tb_X6_keep_17 {p : Program} {l : Launch} {e : Env} {s : State} {m : MethodId} {args : Array Value} {below : List Frame} {meth : Method} {c : Code} {G : gG} {A : Nat → Prop} {o : Nat} {kd : Nat → Nat} {post : Int32 → Mm → Prop} {px : String → Mm → Prop} (X : Cx p l s m args meth c cX6_keep 2 (some .int) RX6 G A) (hout : ∀ x ∈ c.exceptionTable.toList, False) (hl0 : l.stackTraces = false) (hkd : G.2.2 = kd) : ∀ (μ : Mm), wb_X6_keep_17 o kd post px μ → J p l e (rmL (3) 1 6) s m args below meth c 2 G A (vx_MQ below (QG G A (pI post)) (XG G A px) args s 1 6 A) 0 0 17 [(0, .ref o)] [] μ := by
  intro μ hw
  unfold wb_X6_keep_17 at hw
  exact jx_throw X hout hl0 (List.mem_of_getElem? (i := 1) rfl) (List.mem_of_getElem? (i := 14) rfl) wt_2_91 wt_1_14 xg_1 xn_1 (by decide +kernel) xk_1 dX6_keep_17 dX6_keep_20 dX6_keep_21 dX6_keep_23 dX6_keep_26 (Nat.le_of_ble_eq_true rfl) (Nat.le_of_ble_eq_true rfl) (Nat.le_of_ble_eq_true rfl) (Nat.le_of_ble_eq_true rfl) (Nat.le_of_ble_eq_true rfl) (Nat.le_of_ble_eq_true rfl) hw
def wp_X6_keep (o : Nat) (kd : Nat → Nat) (x1 : Nat) (μ : Mm) (post : Int32 → Mm → Prop) (px : String → Mm → Prop) : Prop := ∃ f1 g2, μ o = some (.inl (5, f1)) ∧ f1[0]? = some (.ref g2) ∧ (∃ f30, μ g2 = some (.inl (3, f30))) ∧ wp_X4_isFull g2 μ (fun r5 μ6 => (¬ r5 = 0 → (wb_X6_keep_17 o kd post px μ6)) ∧ (r5 = 0 → ((∃ f28, μ6 x1 = some (.inl (2, f28))) ∧ wp_X3_measure x1 kd μ6 (fun r8 μ9 => (¬ r8 = 0 → (∃ f11 g12, μ9 o = some (.inl (5, f11)) ∧ f11[0]? = some (.ref g12) ∧ (∃ f26, μ9 g12 = some (.inl (3, f26))) ∧ wp_X4_append g12 x1 μ9 (fun μ16 => ∃ f17 g18, μ16 o = some (.inl (5, f17)) ∧ f17[0]? = some (.ref g18) ∧ (∃ f24, μ16 g18 = some (.inl (3, f24))) ∧ wp_X4_size g18 μ16 (fun r21 μ22 => post (r21 - (1 : Int32)) μ22)))) ∧ (r8 = 0 → (wb_X6_keep_17 o kd post px μ9))))))
set_option maxHeartbeats 4000000 in
set_option maxRecDepth 100000 in
theorem c_X6_keep (l : Launch) (G : gG) (A : Nat → Prop) (hl0 : l.stackTraces = false) (kd : Nat → Nat) (hkd : G.2.2 = kd) (o : Nat) (x1 : Nat) (μ : Mm) (post : Int32 → Mm → Prop) (px : String → Mm → Prop) (h : wp_X6_keep o kd x1 μ post px) : vx_Met l yX6_keep (.code yX6_keep cX6_keep 2 (some .int) :: wsA) (rmL (3) 1 6) (PcG G A μ [.ref o, .ref x1]) (QG G A (pI post)) (XG G A px) 1 6 A := by
  refine metx_J (loc := [(0, .ref o), (1, .ref x1)]) (by decide +kernel) (Nat.le_of_ble_eq_true rfl) rfl ?_
  intro p e s m args below meth c X hout
  have X : Cx p l s m args meth c cX6_keep 2 (some .int) RX6 G A := X
  have hw := h
  unfold wp_X6_keep at hw
  refine j_aload_n X (pc' := 1) (kk := 0) (i := 0) 0 rfl rfl dX6_keep_0 rfl ?_
  obtain ⟨f1, g2, hm3, hv4, hw1⟩ := hw
  refine j_getf X (pc' := 4) hm3 0 hv4 rfl fw_TX6 (by decide) wt_1_98 dX6_keep_1 rfl ?_
  obtain ⟨⟨f30, hm29⟩, hw2⟩ := hw1
  refine j_callVi (As := []) (rest := []) X (pc' := 7) (cells' := 0) (slots' := 0) (c_X4_isFull l G A g2 μ _ hw2) (gk_X4_isFull wt_2_50) hd_X4_isFull (rmL_fit (k1 := 0) (k := 3) (by omega) (by decide)) hm29 rfl rfl rfl (Nat.le_of_ble_eq_true rfl) dX6_keep_4 rfl ⟨Nat.le_of_ble_eq_true rfl, Nat.le_of_ble_eq_true rfl⟩ rfl rfl (fun r5 μ6 hw3 => ?_)
  refine j_if_ne X (pc' := 10) (tgt := 17) dX6_keep_7 rfl (by decide) (fun c7 => ?_) (fun c7 => ?_)
  · have hw4 := hw3.1 c7
    refine j_loc [0] rfl ?_
    exact tb_X6_keep_17 X hout hl0 hkd  _ hw4
  · have hw5 := hw3.2 c7
    refine j_aload_n X (pc' := 11) (kk := 1) (i := 1) 1 rfl rfl dX6_keep_10 rfl ?_
    obtain ⟨⟨f28, hm27⟩, hw6⟩ := hw5
    refine j_callVi (As := []) (rest := []) X (pc' := 14) (cells' := 0) (slots' := 0) (c_X3_measure l G A kd hkd x1 μ6 _ hw6) (gk_X3_measure wt_2_54) hd_X3_measure (rmL_fit (k1 := 2) (k := 3) (by omega) (by decide)) hm27 rfl rfl rfl (Nat.le_of_ble_eq_true rfl) dX6_keep_11 rfl ⟨Nat.le_of_ble_eq_true rfl, Nat.le_of_ble_eq_true rfl⟩ rfl rfl (fun r8 μ9 hw7 => ?_)
    refine j_if_ne X (pc' := 17) (tgt := 27) dX6_keep_14 rfl (by decide) (fun c10 => ?_) (fun c10 => ?_)
    · have hw8 := hw7.1 c10
      refine j_aload_n X (pc' := 28) (kk := 0) (i := 0) 0 rfl rfl dX6_keep_27 rfl ?_
      obtain ⟨f11, g12, hm13, hv14, hw9⟩ := hw8
      refine j_getf X (pc' := 31) hm13 0 hv14 rfl fw_TX6 (by decide) wt_1_98 dX6_keep_28 rfl ?_
      refine j_aload_n X (pc' := 32) (kk := 1) (i := 1) 1 rfl rfl dX6_keep_31 rfl ?_
      obtain ⟨⟨f26, hm25⟩, hw10⟩ := hw9
      refine j_callVv (As := [.ref x1]) (rest := []) X (pc' := 35) (cells' := 0) (slots' := 0) (c_X4_append l G A g12 x1 μ9 _ hw10) (gk_X4_append wt_2_107) hd_X4_append (rmL_fit (k1 := 0) (k := 3) (by omega) (by decide)) hm25 rfl rfl rfl (Nat.le_of_ble_eq_true rfl) dX6_keep_32 rfl ⟨Nat.le_of_ble_eq_true rfl, Nat.le_of_ble_eq_true rfl⟩ rfl rfl (fun μ16 hw11 => ?_)
      refine j_aload_n X (pc' := 36) (kk := 0) (i := 0) 0 rfl rfl dX6_keep_35 rfl ?_
      obtain ⟨f17, g18, hm19, hv20, hw12⟩ := hw11
      refine j_getf X (pc' := 39) hm19 0 hv20 rfl fw_TX6 (by decide) wt_1_98 dX6_keep_36 rfl ?_
      obtain ⟨⟨f24, hm23⟩, hw13⟩ := hw12
      refine j_callVi (As := []) (rest := []) X (pc' := 42) (cells' := 0) (slots' := 0) (c_X4_size l G A g18 μ16 _ hw13) (gk_X4_size wt_1_132) hd_X4_size (rmL_fit (k1 := 0) (k := 3) (by omega) (by decide)) hm23 rfl rfl rfl (Nat.le_of_ble_eq_true rfl) dX6_keep_39 rfl ⟨Nat.le_of_ble_eq_true rfl, Nat.le_of_ble_eq_true rfl⟩ rfl rfl (fun r21 μ22 hw14 => ?_)
      refine j_iconst X (pc' := 43) (v := 1) (by decide) dX6_keep_42 rfl ?_
      refine j_isub X (pc' := 44) dX6_keep_43 rfl ?_
      exact j_x (j_iret X ⟨_, rfl, hw14⟩ (Nat.le_of_ble_eq_true rfl) (Nat.le_of_ble_eq_true rfl) dX6_keep_44)
    · have hw15 := hw7.2 c10
      refine j_loc [0] rfl ?_
      exact tb_X6_keep_17 X hout hl0 hkd  _ hw15
/-! BitNotation.addNumber(II)I -/
theorem dX6_addNumber_0 : decode cX6_addNumber 0 = .ok (.iload_n 1, 1) := by decide +kernel
theorem dX6_addNumber_1 : decode cX6_addNumber 1 = .ok (.sipush (-1000), 3) := by decide +kernel
theorem dX6_addNumber_4 : decode cX6_addNumber 4 = .ok (.sipush 1000, 3) := by decide +kernel
theorem dX6_addNumber_7 : decode cX6_addNumber 7 = .ok (.invokestatic 49, 3) := by decide +kernel
theorem dX6_addNumber_10 : decode cX6_addNumber 10 = .ok (.ifCond .ne 14, 3) := by decide +kernel
theorem dX6_addNumber_13 : decode cX6_addNumber 13 = .ok (.iload_n 2, 1) := by decide +kernel
theorem dX6_addNumber_14 : decode cX6_addNumber 14 = .ok (.iload_n 1, 1) := by decide +kernel
theorem dX6_addNumber_15 : decode cX6_addNumber 15 = .ok (.sipush 1000, 3) := by decide +kernel
theorem dX6_addNumber_18 : decode cX6_addNumber 18 = .ok (.invokestatic 49, 3) := by decide +kernel
theorem dX6_addNumber_21 : decode cX6_addNumber 21 = .ok (.ifCond .eq 13, 3) := by decide +kernel
theorem dX6_addNumber_24 : decode cX6_addNumber 24 = .ok (.new 53, 3) := by decide +kernel
theorem dX6_addNumber_27 : decode cX6_addNumber 27 = .ok (.dup, 1) := by decide +kernel
theorem dX6_addNumber_28 : decode cX6_addNumber 28 = .ok (.ldc 55, 2) := by decide +kernel
theorem dX6_addNumber_30 : decode cX6_addNumber 30 = .ok (.invokespecial 57, 3) := by decide +kernel
theorem dX6_addNumber_33 : decode cX6_addNumber 33 = .ok (.athrow, 1) := by decide +kernel
theorem dX6_addNumber_34 : decode cX6_addNumber 34 = .ok (.aload_n 0, 1) := by decide +kernel
theorem dX6_addNumber_35 : decode cX6_addNumber 35 = .ok (.new 60, 3) := by decide +kernel
theorem dX6_addNumber_38 : decode cX6_addNumber 38 = .ok (.dup, 1) := by decide +kernel
theorem dX6_addNumber_39 : decode cX6_addNumber 39 = .ok (.getstatic 62, 3) := by decide +kernel
theorem dX6_addNumber_42 : decode cX6_addNumber 42 = .ok (.iload_n 1, 1) := by decide +kernel
theorem dX6_addNumber_43 : decode cX6_addNumber 43 = .ok (.iload_n 2, 1) := by decide +kernel
theorem dX6_addNumber_44 : decode cX6_addNumber 44 = .ok (.new 7, 3) := by decide +kernel
theorem dX6_addNumber_47 : decode cX6_addNumber 47 = .ok (.dup, 1) := by decide +kernel
theorem dX6_addNumber_48 : decode cX6_addNumber 48 = .ok (.iconst 0, 1) := by decide +kernel
theorem dX6_addNumber_49 : decode cX6_addNumber 49 = .ok (.invokespecial 11, 3) := by decide +kernel
theorem dX6_addNumber_52 : decode cX6_addNumber 52 = .ok (.iconst 0, 1) := by decide +kernel
theorem dX6_addNumber_53 : decode cX6_addNumber 53 = .ok (.invokespecial 68, 3) := by decide +kernel
theorem dX6_addNumber_56 : decode cX6_addNumber 56 = .ok (.invokevirtual 71, 3) := by decide +kernel
theorem dX6_addNumber_59 : decode cX6_addNumber 59 = .ok (.ireturn, 1) := by decide +kernel
def wb_X6_addNumber_24 (o : Nat) (kd : Nat → Nat) (post : Int32 → Mm → Prop) (px : String → Mm → Prop)   (μ : Mm) : Prop := px "java/lang/IllegalArgumentException" μ
set_option maxHeartbeats 4000000 in
set_option maxRecDepth 100000 in
theorem tb_X6_addNumber_24 {p : Program} {l : Launch} {e : Env} {s : State} {m : MethodId} {args : Array Value} {below : List Frame} {meth : Method} {c : Code} {G : gG} {A : Nat → Prop} {o : Nat} {kd : Nat → Nat} {post : Int32 → Mm → Prop} {px : String → Mm → Prop} (X : Cx p l s m args meth c cX6_addNumber 3 (some .int) RX6 G A) (hout : ∀ x ∈ c.exceptionTable.toList, False) (hl0 : l.stackTraces = false) (hkd : G.2.2 = kd) : ∀ (μ : Mm), wb_X6_addNumber_24 o kd post px μ → J p l e (rmL (4) 6 23) s m args below meth c 3 G A (vx_MQ below (QG G A (pI post)) (XG G A px) args s 6 23 A) 0 0 24 [(0, .ref o)] [] μ := by
  intro μ hw
  unfold wb_X6_addNumber_24 at hw
  exact jx_throw X hout hl0 (List.mem_of_getElem? (i := 0) rfl) (List.mem_of_getElem? (i := 0) rfl) wt_1_156 wt_1_10 xg_0 xn_0 (by decide +kernel) xk_0 dX6_addNumber_24 dX6_addNumber_27 dX6_addNumber_28 dX6_addNumber_30 dX6_addNumber_33 (Nat.le_of_ble_eq_true rfl) (Nat.le_of_ble_eq_true rfl) (Nat.le_of_ble_eq_true rfl) (Nat.le_of_ble_eq_true rfl) (Nat.le_of_ble_eq_true rfl) (Nat.le_of_ble_eq_true rfl) hw
def wp_X6_addNumber (o : Nat) (kd : Nat → Nat) (x1 : Int32) (x2 : Int32) (μ : Mm) (post : Int32 → Mm → Prop) (px : String → Mm → Prop) : Prop := wp_X6_isOutside x1 (-1000 : Int32) (1000 : Int32) (fun r1 => (¬ r1 = 0 → (wb_X6_addNumber_24 o kd post px μ)) ∧ (r1 = 0 → (wp_X6_isOutside x2 x1 (1000 : Int32) (fun r3 => (r3 = 0 → (∀ q5, μ q5 = none → ∀ μ7, μ7 = ups μ q5 (.inl (2, [.null, .int 0, .int 0, .int 0, .null, .int 0, .null, .int 0, .int 0, .int 0])) → ∀ q9, μ7 q9 = none → ∀ μ11, μ11 = ups μ7 q9 (.inl (3, [.null, .int 0])) → wp_X4_init q9 0 (0 : Int32) μ11 (fun μ14 => wp_X3_init q5 kd (kd 0) x1 x2 q9 (0 : Int32) μ14 (fun μ16 => (∃ f20, μ16 o = some (.inl (5, f20))) ∧ wp_X6_keep o kd q5 μ16 (fun r17 μ18 => post r17 μ18) px)))) ∧ (¬ r3 = 0 → (wb_X6_addNumber_24 o kd post px μ))))))
set_option maxHeartbeats 4000000 in
set_option maxRecDepth 100000 in
theorem c_X6_addNumber (l : Launch) (G : gG) (A : Nat → Prop) (hl0 : l.stackTraces = false) (kd : Nat → Nat) (hkd : G.2.2 = kd) (o : Nat) (x1 : Int32) (x2 : Int32) (μ : Mm) (post : Int32 → Mm → Prop) (px : String → Mm → Prop) (h : wp_X6_addNumber o kd x1 x2 μ post px) : vx_Met l yX6_addNumber (.code yX6_addNumber cX6_addNumber 3 (some .int) :: wsA) (rmL (4) 6 23) (PcG G A μ [.ref o, .int x1, .int x2]) (QG G A (pI post)) (XG G A px) 6 23 A := by
  refine metx_J (loc := [(0, .ref o), (1, .int x1), (2, .int x2)]) (by decide +kernel) (Nat.le_of_ble_eq_true rfl) rfl ?_
  intro p e s m args below meth c X hout
  have X : Cx p l s m args meth c cX6_addNumber 3 (some .int) RX6 G A := X
  have hw := h
  unfold wp_X6_addNumber at hw
  refine j_iload_n X (pc' := 1) (kk := 1) (i := 1) 1 rfl rfl dX6_addNumber_0 rfl ?_
  refine j_sipush X (pc' := 4) (v := (-1000)) (by decide) dX6_addNumber_1 rfl ?_
  refine j_sipush X (pc' := 7) (v := 1000) (by decide) dX6_addNumber_4 rfl ?_
  refine j_callSp (As := [.int x1, .int (-1000 : Int32), .int (1000 : Int32)]) (rest := []) X (pc' := 10) (cells' := 0) (slots' := 0) (c_X6_isOutside l G A μ x1 (-1000 : Int32) (1000 : Int32) _ hw) (gk_X6_isOutside wt_1_153) hd_X6_isOutside (rmL_fit (k1 := 0) (k := 4) (by omega) (by decide)) rfl rfl (Nat.le_of_ble_eq_true rfl) dX6_addNumber_7 rfl ⟨Nat.le_of_ble_eq_true rfl, Nat.le_of_ble_eq_true rfl⟩ rfl rfl (fun r1 hw1 => ?_)
  refine j_if_ne X (pc' := 13) (tgt := 24) dX6_addNumber_10 rfl (by decide) (fun c2 => ?_) (fun c2 => ?_)
  · have hw2 := hw1.1 c2
    refine j_loc [0] rfl ?_
    exact tb_X6_addNumber_24 X hout hl0 hkd  _ hw2
  · have hw3 := hw1.2 c2
    refine j_iload_n X (pc' := 14) (kk := 2) (i := 2) 2 rfl rfl dX6_addNumber_13 rfl ?_
    refine j_iload_n X (pc' := 15) (kk := 1) (i := 1) 1 rfl rfl dX6_addNumber_14 rfl ?_
    refine j_sipush X (pc' := 18) (v := 1000) (by decide) dX6_addNumber_15 rfl ?_
    refine j_callSp (As := [.int x2, .int x1, .int (1000 : Int32)]) (rest := []) X (pc' := 21) (cells' := 0) (slots' := 0) (c_X6_isOutside l G A μ x2 x1 (1000 : Int32) _ hw3) (gk_X6_isOutside wt_1_153) hd_X6_isOutside (rmL_fit (k1 := 0) (k := 4) (by omega) (by decide)) rfl rfl (Nat.le_of_ble_eq_true rfl) dX6_addNumber_18 rfl ⟨Nat.le_of_ble_eq_true rfl, Nat.le_of_ble_eq_true rfl⟩ rfl rfl (fun r3 hw4 => ?_)
    refine j_if_eq X (pc' := 24) (tgt := 34) dX6_addNumber_21 rfl (by decide) (fun c4 => ?_) (fun c4 => ?_)
    · have hw5 := hw4.1 c4
      refine j_aload_n X (pc' := 35) (kk := 0) (i := 0) 0 rfl rfl dX6_addNumber_34 rfl ?_
      refine jp_new X (pc' := 38) (cells' := 1) (slots' := 10) (ci := 2) (fs := [.null, .int 0, .int 0, .int 0, .null, .int 0, .null, .int 0, .int 0, .int 0]) rfl fw_TX3 tyX3_ok wt_1_224 wt_1_225 wt_1_11 df_X3 (Nat.le_of_ble_eq_true rfl) (Nat.le_of_ble_eq_true rfl) rfl rfl dX6_addNumber_35 rfl (fun q5 hq6 μ7 e8 => ?_)
      have hw6 := hw5 q5 hq6 μ7 e8
      refine j_dup X (pc' := 39) rfl dX6_addNumber_38 rfl ?_
      refine jp_kind X (pc' := 42) hkd 0 (by decide) wt_1_226 dX6_addNumber_39 rfl ?_
      refine j_iload_n X (pc' := 43) (kk := 1) (i := 1) 1 rfl rfl dX6_addNumber_42 rfl ?_
      refine j_iload_n X (pc' := 44) (kk := 2) (i := 2) 2 rfl rfl dX6_addNumber_43 rfl ?_
      refine jp_new X (pc' := 47) (cells' := 2) (slots' := 12) (ci := 3) (fs := [.null, .int 0]) rfl fw_TX4 tyX4_ok wt_1_24 wt_1_25 wt_1_2 df_X4 (Nat.le_of_ble_eq_true rfl) (Nat.le_of_ble_eq_true rfl) rfl rfl dX6_addNumber_44 rfl (fun q9 hq10 μ11 e12 => ?_)
      have hw7 := hw6 q9 hq10 μ11 e12
      refine j_dup X (pc' := 48) rfl dX6_addNumber_47 rfl ?_
      refine j_iconst X (pc' := 49) (v := 0) (by decide) dX6_addNumber_48 rfl ?_
      refine j_callIv (As := [.int (0 : Int32)]) (rest := [.ref q9, .int x2, .int x1, .ref (kd 0), .ref q5, .ref q5, .ref o]) X (pc' := 52) (cells' := 3) (slots' := 12) (c_X4_init l G A 0 (by decide) q9 (0 : Int32) μ11 _ hw7) wt_1_26 wt_1_27 wt_1_2 wt_1_28 rfl hd_X4_init (rmL_fit (k1 := 0) (k := 4) (by omega) (by decide)) rfl rfl (Nat.le_of_ble_eq_true rfl) dX6_addNumber_49 rfl ⟨Nat.le_of_ble_eq_true rfl, Nat.le_of_ble_eq_true rfl⟩ rfl rfl (fun μ14 hw8 => ?_)
      refine j_iconst X (pc' := 53) (v := 0) (by decide) dX6_addNumber_52 rfl ?_
      refine j_callIv (As := [.ref (kd 0), .int x1, .int x2, .ref q9, .int (0 : Int32)]) (rest := [.ref q5, .ref o]) X (pc' := 56) (cells' := 5) (slots' := 17) (c_X3_init l G A kd hkd q5 (kd 0) x1 x2 q9 (0 : Int32) μ14 _ hw8) wt_1_228 wt_1_229 wt_1_11 wt_1_230 rfl hd_X3_init (rmL_fit (k1 := 1) (k := 4) (by omega) (by decide)) rfl rfl (Nat.le_of_ble_eq_true rfl) dX6_addNumber_53 rfl ⟨Nat.le_of_ble_eq_true rfl, Nat.le_of_ble_eq_true rfl⟩ rfl rfl (fun μ16 hw9 => ?_)
      obtain ⟨⟨f20, hm19⟩, hw10⟩ := hw9
      refine jx_callVi (As := [.ref q5]) (rest := []) X (pc' := 59) (cells' := 6) (slots' := 23) hout (c_X6_keep l G A hl0 kd hkd o q5 μ16 _ _ hw10) (gk_X6_keep wt_2_46) hd_X6_keep (rmL_fit (k1 := 3) (k := 4) (by omega) (by decide)) hm19 rfl rfl rfl (Nat.le_of_ble_eq_true rfl) dX6_addNumber_56 rfl ⟨Nat.le_of_ble_eq_true rfl, Nat.le_of_ble_eq_true rfl⟩ rfl rfl (Nat.le_of_ble_eq_true rfl) (Nat.le_of_ble_eq_true rfl) (fun r17 μ18 hw11 => ?_)
      exact j_x (j_iret X ⟨_, rfl, hw11⟩ (Nat.le_of_ble_eq_true rfl) (Nat.le_of_ble_eq_true rfl) dX6_addNumber_59)
    · have hw12 := hw4.2 c4
      refine j_loc [0] rfl ?_
      exact tb_X6_addNumber_24 X hout hl0 hkd  _ hw12
/-! BitNotation.typeNumbered(I)LBitNotation$Type; -/
theorem dX6_typeNumbered_0 : decode cX6_typeNumbered 0 = .ok (.aload_n 0, 1) := by decide +kernel
theorem dX6_typeNumbered_1 : decode cX6_typeNumbered 1 = .ok (.getfield 14, 3) := by decide +kernel
theorem dX6_typeNumbered_4 : decode cX6_typeNumbered 4 = .ok (.iload_n 1, 1) := by decide +kernel
theorem dX6_typeNumbered_5 : decode cX6_typeNumbered 5 = .ok (.invokevirtual 188, 3) := by decide +kernel
theorem dX6_typeNumbered_8 : decode cX6_typeNumbered 8 = .ok (.astore_n 2, 1) := by decide +kernel
theorem dX6_typeNumbered_9 : decode cX6_typeNumbered 9 = .ok (.aload_n 2, 1) := by decide +kernel
theorem dX6_typeNumbered_10 : decode cX6_typeNumbered 10 = .ok (.ifnonnull 13, 3) := by decide +kernel
theorem dX6_typeNumbered_13 : decode cX6_typeNumbered 13 = .ok (.new 149, 3) := by decide +kernel
theorem dX6_typeNumbered_16 : decode cX6_typeNumbered 16 = .ok (.dup, 1) := by decide +kernel
theorem dX6_typeNumbered_17 : decode cX6_typeNumbered 17 = .ok (.ldc 190, 2) := by decide +kernel
theorem dX6_typeNumbered_19 : decode cX6_typeNumbered 19 = .ok (.invokespecial 153, 3) := by decide +kernel
theorem dX6_typeNumbered_22 : decode cX6_typeNumbered 22 = .ok (.athrow, 1) := by decide +kernel
theorem dX6_typeNumbered_23 : decode cX6_typeNumbered 23 = .ok (.aload_n 2, 1) := by decide +kernel
theorem dX6_typeNumbered_24 : decode cX6_typeNumbered 24 = .ok (.areturn, 1) := by decide +kernel
def wp_X6_typeNumbered (o : Nat) (x1 : Int32) (μ : Mm) (post : Nat → Mm → Prop) (px : String → Mm → Prop) : Prop := ∃ f1 g2, μ o = some (.inl (5, f1)) ∧ f1[0]? = some (.ref g2) ∧ (∃ f10, μ g2 = some (.inl (3, f10))) ∧ wp_X4_at g2 x1 μ (fun r5 μ6 => (r5 = none → (px "java/lang/IndexOutOfBoundsException" μ6)) ∧ (∀ a8, r5 = some a8 → (post a8 μ6)))
set_option maxHeartbeats 4000000 in
set_option maxRecDepth 100000 in
theorem c_X6_typeNumbered (l : Launch) (G : gG) (A : Nat → Prop) (hl0 : l.stackTraces = false) (o : Nat) (x1 : Int32) (μ : Mm) (post : Nat → Mm → Prop) (px : String → Mm → Prop) (h : wp_X6_typeNumbered o x1 μ post px) : vx_Met l yX6_typeNumbered (.code yX6_typeNumbered cX6_typeNumbered 3 (some (.object "BitNotation$Type")) :: wsA) (rmL (1) 1 6) (PcG G A μ [.ref o, .int x1]) (QG G A (pN post)) (XG G A px) 1 6 A := by
  refine metx_J (loc := [(0, .ref o), (1, .int x1)]) (by decide +kernel) (Nat.le_of_ble_eq_true rfl) rfl ?_
  intro p e s m args below meth c X hout
  have X : Cx p l s m args meth c cX6_typeNumbered 3 (some (.object "BitNotation$Type")) RX6 G A := X
  have hw := h
  unfold wp_X6_typeNumbered at hw
  refine j_aload_n X (pc' := 1) (kk := 0) (i := 0) 0 rfl rfl dX6_typeNumbered_0 rfl ?_
  obtain ⟨f1, g2, hm3, hv4, hw1⟩ := hw
  refine j_getf X (pc' := 4) hm3 0 hv4 rfl fw_TX6 (by decide) wt_1_98 dX6_typeNumbered_1 rfl ?_
  refine j_iload_n X (pc' := 5) (kk := 1) (i := 1) 1 rfl rfl dX6_typeNumbered_4 rfl ?_
  obtain ⟨⟨f10, hm9⟩, hw2⟩ := hw1
  refine j_callVq (As := [.int x1]) (rest := []) X (pc' := 8) (cells' := 0) (slots' := 0) (c_X4_at l G A g2 x1 μ _ hw2) (gk_X4_at wt_2_125) hd_X4_at (rmL_fit (k1 := 0) (k := 1) (by omega) (by decide)) hm9 rfl rfl rfl (Nat.le_of_ble_eq_true rfl) dX6_typeNumbered_5 rfl ⟨Nat.le_of_ble_eq_true rfl, Nat.le_of_ble_eq_true rfl⟩ rfl rfl (fun r5 μ6 hw3 => ?_)
  refine j_astore_nq X (pc' := 9) (kk := 2) (i := 2) (x := r5) (loc' := [(2, va_rf r5), (0, .ref o), (1, .int x1)]) dX6_typeNumbered_8 rfl rfl (by decide) rfl ?_
  refine j_aload_nq X (pc' := 10) (kk := 2) (i := 2) (x := r5) 0 rfl rfl dX6_typeNumbered_9 rfl ?_
  refine j_ifnonnull X (pc' := 13) (x := r5) (tgt := 23) dX6_typeNumbered_10 rfl (by decide) (fun a8 c7 => ?_) (fun c7 => ?_)
  · have hw4 := hw3.2 a8 c7
    subst c7
    refine j_aload_n X (pc' := 24) (kk := 2) (i := 2) 0 rfl rfl dX6_typeNumbered_23 rfl ?_
    exact j_x (j_aret X (r := (some a8)) ⟨_, rfl, hw4⟩ (Nat.le_of_ble_eq_true rfl) (Nat.le_of_ble_eq_true rfl) dX6_typeNumbered_24)
  · have hw5 := hw3.1 c7
    exact jx_throw X hout hl0 (List.mem_of_getElem? (i := 2) rfl) (List.mem_of_getElem? (i := 13) rfl) wt_2_126 wt_1_15 xg_2 xn_2 (by decide +kernel) xk_2 dX6_typeNumbered_13 dX6_typeNumbered_16 dX6_typeNumbered_17 dX6_typeNumbered_19 dX6_typeNumbered_22 (Nat.le_of_ble_eq_true rfl) (Nat.le_of_ble_eq_true rfl) (Nat.le_of_ble_eq_true rfl) (Nat.le_of_ble_eq_true rfl) (Nat.le_of_ble_eq_true rfl) (Nat.le_of_ble_eq_true rfl) hw5
/-! BitNotation.addList(III)I -/
theorem dX6_addList_0 : decode cX6_addList 0 = .ok (.aload_n 0, 1) := by decide +kernel
theorem dX6_addList_1 : decode cX6_addList 1 = .ok (.iload_n 1, 1) := by decide +kernel
theorem dX6_addList_2 : decode cX6_addList 2 = .ok (.invokevirtual 75, 3) := by decide +kernel
theorem dX6_addList_5 : decode cX6_addList 5 = .ok (.astore 4, 2) := by decide +kernel
theorem dX6_addList_7 : decode cX6_addList 7 = .ok (.iload_n 2, 1) := by decide +kernel
theorem dX6_addList_8 : decode cX6_addList 8 = .ok (.iconst 0, 1) := by decide +kernel
theorem dX6_addList_9 : decode cX6_addList 9 = .ok (.bipush 8, 2) := by decide +kernel
theorem dX6_addList_11 : decode cX6_addList 11 = .ok (.invokestatic 49, 3) := by decide +kernel
theorem dX6_addList_14 : decode cX6_addList 14 = .ok (.ifCond .ne 13, 3) := by decide +kernel
theorem dX6_addList_17 : decode cX6_addList 17 = .ok (.iload_n 3, 1) := by decide +kernel
theorem dX6_addList_18 : decode cX6_addList 18 = .ok (.iload_n 2, 1) := by decide +kernel
theorem dX6_addList_19 : decode cX6_addList 19 = .ok (.bipush 8, 2) := by decide +kernel
theorem dX6_addList_21 : decode cX6_addList 21 = .ok (.invokestatic 49, 3) := by decide +kernel
theorem dX6_addList_24 : decode cX6_addList 24 = .ok (.ifCond .eq 13, 3) := by decide +kernel
theorem dX6_addList_27 : decode cX6_addList 27 = .ok (.new 53, 3) := by decide +kernel
theorem dX6_addList_30 : decode cX6_addList 30 = .ok (.dup, 1) := by decide +kernel
theorem dX6_addList_31 : decode cX6_addList 31 = .ok (.ldc 79, 2) := by decide +kernel
theorem dX6_addList_33 : decode cX6_addList 33 = .ok (.invokespecial 57, 3) := by decide +kernel
theorem dX6_addList_36 : decode cX6_addList 36 = .ok (.athrow, 1) := by decide +kernel
theorem dX6_addList_37 : decode cX6_addList 37 = .ok (.new 7, 3) := by decide +kernel
theorem dX6_addList_40 : decode cX6_addList 40 = .ok (.dup, 1) := by decide +kernel
theorem dX6_addList_41 : decode cX6_addList 41 = .ok (.iconst 1, 1) := by decide +kernel
theorem dX6_addList_42 : decode cX6_addList 42 = .ok (.invokespecial 11, 3) := by decide +kernel
theorem dX6_addList_45 : decode cX6_addList 45 = .ok (.astore 5, 2) := by decide +kernel
theorem dX6_addList_47 : decode cX6_addList 47 = .ok (.aload 5, 2) := by decide +kernel
theorem dX6_addList_49 : decode cX6_addList 49 = .ok (.aload 4, 2) := by decide +kernel
theorem dX6_addList_51 : decode cX6_addList 51 = .ok (.invokevirtual 81, 3) := by decide +kernel
theorem dX6_addList_54 : decode cX6_addList 54 = .ok (.aload_n 0, 1) := by decide +kernel
theorem dX6_addList_55 : decode cX6_addList 55 = .ok (.new 60, 3) := by decide +kernel
theorem dX6_addList_58 : decode cX6_addList 58 = .ok (.dup, 1) := by decide +kernel
theorem dX6_addList_59 : decode cX6_addList 59 = .ok (.getstatic 85, 3) := by decide +kernel
theorem dX6_addList_62 : decode cX6_addList 62 = .ok (.iload_n 2, 1) := by decide +kernel
theorem dX6_addList_63 : decode cX6_addList 63 = .ok (.iload_n 3, 1) := by decide +kernel
theorem dX6_addList_64 : decode cX6_addList 64 = .ok (.aload 5, 2) := by decide +kernel
theorem dX6_addList_66 : decode cX6_addList 66 = .ok (.iconst 0, 1) := by decide +kernel
theorem dX6_addList_67 : decode cX6_addList 67 = .ok (.invokespecial 68, 3) := by decide +kernel
theorem dX6_addList_70 : decode cX6_addList 70 = .ok (.invokevirtual 71, 3) := by decide +kernel
theorem dX6_addList_73 : decode cX6_addList 73 = .ok (.ireturn, 1) := by decide +kernel
def wb_X6_addList_27 (o : Nat) (kd : Nat → Nat) (post : Int32 → Mm → Prop) (px : String → Mm → Prop)   (μ : Mm) : Prop := px "java/lang/IllegalArgumentException" μ
set_option maxHeartbeats 4000000 in
set_option maxRecDepth 100000 in
theorem tb_X6_addList_27 {p : Program} {l : Launch} {e : Env} {s : State} {m : MethodId} {args : Array Value} {below : List Frame} {meth : Method} {c : Code} {G : gG} {A : Nat → Prop} {o : Nat} {kd : Nat → Nat} {post : Int32 → Mm → Prop} {px : String → Mm → Prop} (X : Cx p l s m args meth c cX6_addList 6 (some .int) RX6 G A) (hout : ∀ x ∈ c.exceptionTable.toList, False) (hl0 : l.stackTraces = false) (hkd : G.2.2 = kd) : ∀ (μ : Mm), wb_X6_addList_27 o kd post px μ → J p l e (rmL (4) 7 30) s m args below meth c 6 G A (vx_MQ below (QG G A (pI post)) (XG G A px) args s 7 30 A) 1 6 27 [(0, .ref o)] [] μ := by
  intro μ hw
  unfold wb_X6_addList_27 at hw
  exact jx_throw X hout hl0 (List.mem_of_getElem? (i := 0) rfl) (List.mem_of_getElem? (i := 1) rfl) wt_1_156 wt_1_10 xg_0 xn_0 (by decide +kernel) xk_0 dX6_addList_27 dX6_addList_30 dX6_addList_31 dX6_addList_33 dX6_addList_36 (Nat.le_of_ble_eq_true rfl) (Nat.le_of_ble_eq_true rfl) (Nat.le_of_ble_eq_true rfl) (Nat.le_of_ble_eq_true rfl) (Nat.le_of_ble_eq_true rfl) (Nat.le_of_ble_eq_true rfl) hw
def wp_X6_addList (o : Nat) (kd : Nat → Nat) (x1 : Int32) (x2 : Int32) (x3 : Int32) (μ : Mm) (post : Int32 → Mm → Prop) (px : String → Mm → Prop) : Prop := (∃ f33, μ o = some (.inl (5, f33))) ∧ wp_X6_typeNumbered o x1 μ (fun r1 μ2 => wp_X6_isOutside x2 (0 : Int32) (8 : Int32) (fun r3 => (¬ r3 = 0 → (wb_X6_addList_27 o kd post px μ2)) ∧ (r3 = 0 → (wp_X6_isOutside x3 x2 (8 : Int32) (fun r5 => (r5 = 0 → (∀ q7, μ2 q7 = none → ∀ μ9, μ9 = ups μ2 q7 (.inl (3, [.null, .int 0])) → wp_X4_init q7 1 (1 : Int32) μ9 (fun μ12 => (∃ f27, μ12 q7 = some (.inl (3, f27))) ∧ wp_X4_append q7 r1 μ12 (fun μ14 => ∀ q15, μ14 q15 = none → ∀ μ17, μ17 = ups μ14 q15 (.inl (2, [.null, .int 0, .int 0, .int 0, .null, .int 0, .null, .int 0, .int 0, .int 0])) → wp_X3_init q15 kd (kd 1) x2 x3 q7 (0 : Int32) μ17 (fun μ20 => (∃ f24, μ20 o = some (.inl (5, f24))) ∧ wp_X6_keep o kd q15 μ20 (fun r21 μ22 => post r21 μ22) px))))) ∧ (¬ r5 = 0 → (wb_X6_addList_27 o kd post px μ2))))))) px
set_option maxHeartbeats 4000000 in
set_option maxRecDepth 100000 in
theorem c_X6_addList (l : Launch) (G : gG) (A : Nat → Prop) (hl0 : l.stackTraces = false) (kd : Nat → Nat) (hkd : G.2.2 = kd) (o : Nat) (x1 : Int32) (x2 : Int32) (x3 : Int32) (μ : Mm) (post : Int32 → Mm → Prop) (px : String → Mm → Prop) (h : wp_X6_addList o kd x1 x2 x3 μ post px) : vx_Met l yX6_addList (.code yX6_addList cX6_addList 6 (some .int) :: wsA) (rmL (4) 7 30) (PcG G A μ [.ref o, .int x1, .int x2, .int x3]) (QG G A (pI post)) (XG G A px) 7 30 A := by
  refine metx_J (loc := [(0, .ref o), (1, .int x1), (2, .int x2), (3, .int x3)]) (by decide +kernel) (Nat.le_of_ble_eq_true rfl) rfl ?_
  intro p e s m args below meth c X hout
  have X : Cx p l s m args meth c cX6_addList 6 (some .int) RX6 G A := X
  have hw := h
  unfold wp_X6_addList at hw
  refine j_aload_n X (pc' := 1) (kk := 0) (i := 0) 0 rfl rfl dX6_addList_0 rfl ?_
  refine j_iload_n X (pc' := 2) (kk := 1) (i := 1) 1 rfl rfl dX6_addList_1 rfl ?_
  obtain ⟨⟨f33, hm32⟩, hw1⟩ := hw
  refine jx_callVn (As := [.int x1]) (rest := []) X (pc' := 5) (cells' := 1) (slots' := 6) hout (c_X6_typeNumbered l G A hl0 o x1 μ _ _ hw1) (gk_X6_typeNumbered wt_2_121) hd_X6_typeNumbered (rmL_fit (k1 := 1) (k := 4) (by omega) (by decide)) hm32 rfl rfl rfl (Nat.le_of_ble_eq_true rfl) dX6_addList_2 rfl ⟨Nat.le_of_ble_eq_true rfl, Nat.le_of_ble_eq_true rfl⟩ rfl rfl (Nat.le_of_ble_eq_true rfl) (Nat.le_of_ble_eq_true rfl) (fun r1 μ2 hw2 => ?_)
  refine j_astore X (pc' := 7) (i := 4) (loc' := [(4, .ref r1), (0, .ref o), (1, .int x1), (2, .int x2), (3, .int x3)]) dX6_addList_5 rfl (by decide) rfl ?_
  refine j_iload_n X (pc' := 8) (kk := 2) (i := 2) 3 rfl rfl dX6_addList_7 rfl ?_
  refine j_iconst X (pc' := 9) (v := 0) (by decide) dX6_addList_8 rfl ?_
  refine j_bipush X (pc' := 11) (v := 8) (by decide) dX6_addList_9 rfl ?_
  refine j_callSp (As := [.int x2, .int (0 : Int32), .int (8 : Int32)]) (rest := []) X (pc' := 14) (cells' := 1) (slots' := 6) (c_X6_isOutside l G A μ2 x2 (0 : Int32) (8 : Int32) _ hw2) (gk_X6_isOutside wt_1_153) hd_X6_isOutside (rmL_fit (k1 := 0) (k := 4) (by omega) (by decide)) rfl rfl (Nat.le_of_ble_eq_true rfl) dX6_addList_11 rfl ⟨Nat.le_of_ble_eq_true rfl, Nat.le_of_ble_eq_true rfl⟩ rfl rfl (fun r3 hw3 => ?_)
  refine j_if_ne X (pc' := 17) (tgt := 27) dX6_addList_14 rfl (by decide) (fun c4 => ?_) (fun c4 => ?_)
  · have hw4 := hw3.1 c4
    refine j_loc [1] rfl ?_
    exact tb_X6_addList_27 X hout hl0 hkd  _ hw4
  · have hw5 := hw3.2 c4
    refine j_iload_n X (pc' := 18) (kk := 3) (i := 3) 4 rfl rfl dX6_addList_17 rfl ?_
    refine j_iload_n X (pc' := 19) (kk := 2) (i := 2) 3 rfl rfl dX6_addList_18 rfl ?_
    refine j_bipush X (pc' := 21) (v := 8) (by decide) dX6_addList_19 rfl ?_
    refine j_callSp (As := [.int x3, .int x2, .int (8 : Int32)]) (rest := []) X (pc' := 24) (cells' := 1) (slots' := 6) (c_X6_isOutside l G A μ2 x3 x2 (8 : Int32) _ hw5) (gk_X6_isOutside wt_1_153) hd_X6_isOutside (rmL_fit (k1 := 0) (k := 4) (by omega) (by decide)) rfl rfl (Nat.le_of_ble_eq_true rfl) dX6_addList_21 rfl ⟨Nat.le_of_ble_eq_true rfl, Nat.le_of_ble_eq_true rfl⟩ rfl rfl (fun r5 hw6 => ?_)
    refine j_if_eq X (pc' := 27) (tgt := 37) dX6_addList_24 rfl (by decide) (fun c6 => ?_) (fun c6 => ?_)
    · have hw7 := hw6.1 c6
      refine jp_new X (pc' := 40) (cells' := 2) (slots' := 8) (ci := 3) (fs := [.null, .int 0]) rfl fw_TX4 tyX4_ok wt_1_24 wt_1_25 wt_1_2 df_X4 (Nat.le_of_ble_eq_true rfl) (Nat.le_of_ble_eq_true rfl) rfl rfl dX6_addList_37 rfl (fun q7 hq8 μ9 e10 => ?_)
      have hw8 := hw7 q7 hq8 μ9 e10
      refine j_dup X (pc' := 41) rfl dX6_addList_40 rfl ?_
      refine j_iconst X (pc' := 42) (v := 1) (by decide) dX6_addList_41 rfl ?_
      refine j_callIv (As := [.int (1 : Int32)]) (rest := [.ref q7]) X (pc' := 45) (cells' := 3) (slots' := 9) (c_X4_init l G A 1 (by decide) q7 (1 : Int32) μ9 _ hw8) wt_1_26 wt_1_27 wt_1_2 wt_1_28 rfl hd_X4_init (rmL_fit (k1 := 0) (k := 4) (by omega) (by decide)) rfl rfl (Nat.le_of_ble_eq_true rfl) dX6_addList_42 rfl ⟨Nat.le_of_ble_eq_true rfl, Nat.le_of_ble_eq_true rfl⟩ rfl rfl (fun μ12 hw9 => ?_)
      refine j_astore X (pc' := 47) (i := 5) (loc' := [(5, .ref q7), (4, .ref r1), (0, .ref o), (1, .int x1), (2, .int x2), (3, .int x3)]) dX6_addList_45 rfl (by decide) rfl ?_
      refine j_aload X (pc' := 49) (i := 5) 0 rfl dX6_addList_47 rfl ?_
      refine j_aload X (pc' := 51) (i := 4) 1 rfl dX6_addList_49 rfl ?_
      obtain ⟨⟨f27, hm26⟩, hw10⟩ := hw9
      refine j_callVv (As := [.ref r1]) (rest := []) X (pc' := 54) (cells' := 3) (slots' := 9) (c_X4_append l G A q7 r1 μ12 _ hw10) (gk_X4_append wt_2_107) hd_X4_append (rmL_fit (k1 := 0) (k := 4) (by omega) (by decide)) hm26 rfl rfl rfl (Nat.le_of_ble_eq_true rfl) dX6_addList_51 rfl ⟨Nat.le_of_ble_eq_true rfl, Nat.le_of_ble_eq_true rfl⟩ rfl rfl (fun μ14 hw11 => ?_)
      refine j_aload_n X (pc' := 55) (kk := 0) (i := 0) 2 rfl rfl dX6_addList_54 rfl ?_
      refine jp_new X (pc' := 58) (cells' := 4) (slots' := 19) (ci := 2) (fs := [.null, .int 0, .int 0, .int 0, .null, .int 0, .null, .int 0, .int 0, .int 0]) rfl fw_TX3 tyX3_ok wt_1_224 wt_1_225 wt_1_11 df_X3 (Nat.le_of_ble_eq_true rfl) (Nat.le_of_ble_eq_true rfl) rfl rfl dX6_addList_55 rfl (fun q15 hq16 μ17 e18 => ?_)
      have hw12 := hw11 q15 hq16 μ17 e18
      refine j_dup X (pc' := 59) rfl dX6_addList_58 rfl ?_
      refine jp_kind X (pc' := 62) hkd 1 (by decide) wt_2_143 dX6_addList_59 rfl ?_
      refine j_iload_n X (pc' := 63) (kk := 2) (i := 2) 4 rfl rfl dX6_addList_62 rfl ?_
      refine j_iload_n X (pc' := 64) (kk := 3) (i := 3) 5 rfl rfl dX6_addList_63 rfl ?_
      refine j_aload X (pc' := 66) (i := 5) 0 rfl dX6_addList_64 rfl ?_
      refine j_iconst X (pc' := 67) (v := 0) (by decide) dX6_addList_66 rfl ?_
      refine j_callIv (As := [.ref (kd 1), .int x2, .int x3, .ref q7, .int (0 : Int32)]) (rest := [.ref q15, .ref o]) X (pc' := 70) (cells' := 6) (slots' := 24) (c_X3_init l G A kd hkd q15 (kd 1) x2 x3 q7 (0 : Int32) μ17 _ hw12) wt_1_228 wt_1_229 wt_1_11 wt_1_230 rfl hd_X3_init (rmL_fit (k1 := 1) (k := 4) (by omega) (by decide)) rfl rfl (Nat.le_of_ble_eq_true rfl) dX6_addList_67 rfl ⟨Nat.le_of_ble_eq_true rfl, Nat.le_of_ble_eq_true rfl⟩ rfl rfl (fun μ20 hw13 => ?_)
      obtain ⟨⟨f24, hm23⟩, hw14⟩ := hw13
      refine jx_callVi (As := [.ref q15]) (rest := []) X (pc' := 73) (cells' := 7) (slots' := 30) hout (c_X6_keep l G A hl0 kd hkd o q15 μ20 _ _ hw14) (gk_X6_keep wt_2_46) hd_X6_keep (rmL_fit (k1 := 3) (k := 4) (by omega) (by decide)) hm23 rfl rfl rfl (Nat.le_of_ble_eq_true rfl) dX6_addList_70 rfl ⟨Nat.le_of_ble_eq_true rfl, Nat.le_of_ble_eq_true rfl⟩ rfl rfl (Nat.le_of_ble_eq_true rfl) (Nat.le_of_ble_eq_true rfl) (fun r21 μ22 hw15 => ?_)
      exact j_x (j_iret X ⟨_, rfl, hw15⟩ (Nat.le_of_ble_eq_true rfl) (Nat.le_of_ble_eq_true rfl) dX6_addList_73)
    · have hw16 := hw6.2 c6
      refine j_loc [1] rfl ?_
      exact tb_X6_addList_27 X hout hl0 hkd  _ hw16
/-! BitNotation.part(IZ)I -/
theorem dX6_part_0 : decode cX6_part 0 = .ok (.aload_n 0, 1) := by decide +kernel
theorem dX6_part_1 : decode cX6_part 1 = .ok (.iload_n 1, 1) := by decide +kernel
theorem dX6_part_2 : decode cX6_part 2 = .ok (.invokevirtual 75, 3) := by decide +kernel
theorem dX6_part_5 : decode cX6_part 5 = .ok (.astore_n 3, 1) := by decide +kernel
theorem dX6_part_6 : decode cX6_part 6 = .ok (.aload_n 0, 1) := by decide +kernel
theorem dX6_part_7 : decode cX6_part 7 = .ok (.getfield 42, 3) := by decide +kernel
theorem dX6_part_10 : decode cX6_part 10 = .ok (.invokevirtual 88, 3) := by decide +kernel
theorem dX6_part_13 : decode cX6_part 13 = .ok (.ifCond .eq 13, 3) := by decide +kernel
theorem dX6_part_16 : decode cX6_part 16 = .ok (.new 92, 3) := by decide +kernel
theorem dX6_part_19 : decode cX6_part 19 = .ok (.dup, 1) := by decide +kernel
theorem dX6_part_20 : decode cX6_part 20 = .ok (.ldc 94, 2) := by decide +kernel
theorem dX6_part_22 : decode cX6_part 22 = .ok (.invokespecial 96, 3) := by decide +kernel
theorem dX6_part_25 : decode cX6_part 25 = .ok (.athrow, 1) := by decide +kernel
theorem dX6_part_26 : decode cX6_part 26 = .ok (.iload_n 2, 1) := by decide +kernel
theorem dX6_part_27 : decode cX6_part 27 = .ok (.ifCond .eq 21, 3) := by decide +kernel
theorem dX6_part_30 : decode cX6_part 30 = .ok (.aload_n 0, 1) := by decide +kernel
theorem dX6_part_31 : decode cX6_part 31 = .ok (.dup, 1) := by decide +kernel
theorem dX6_part_32 : decode cX6_part 32 = .ok (.getfield 45, 3) := by decide +kernel
theorem dX6_part_35 : decode cX6_part 35 = .ok (.iconst 1, 1) := by decide +kernel
theorem dX6_part_36 : decode cX6_part 36 = .ok (.aload_n 0, 1) := by decide +kernel
theorem dX6_part_37 : decode cX6_part 37 = .ok (.getfield 42, 3) := by decide +kernel
theorem dX6_part_40 : decode cX6_part 40 = .ok (.invokevirtual 97, 3) := by decide +kernel
theorem dX6_part_43 : decode cX6_part 43 = .ok (.ishl, 1) := by decide +kernel
theorem dX6_part_44 : decode cX6_part 44 = .ok (.ior, 1) := by decide +kernel
theorem dX6_part_45 : decode cX6_part 45 = .ok (.putfield 45, 3) := by decide +kernel
theorem dX6_part_48 : decode cX6_part 48 = .ok (.aload_n 0, 1) := by decide +kernel
theorem dX6_part_49 : decode cX6_part 49 = .ok (.getfield 42, 3) := by decide +kernel
theorem dX6_part_52 : decode cX6_part 52 = .ok (.aload_n 3, 1) := by decide +kernel
theorem dX6_part_53 : decode cX6_part 53 = .ok (.invokevirtual 81, 3) := by decide +kernel
theorem dX6_part_56 : decode cX6_part 56 = .ok (.aload_n 0, 1) := by decide +kernel
theorem dX6_part_57 : decode cX6_part 57 = .ok (.getfield 42, 3) := by decide +kernel
theorem dX6_part_60 : decode cX6_part 60 = .ok (.invokevirtual 97, 3) := by decide +kernel
theorem dX6_part_63 : decode cX6_part 63 = .ok (.ireturn, 1) := by decide +kernel
def wb_X6_part_48 (o : Nat) (post : Int32 → Mm → Prop) (px : String → Mm → Prop)  (v3 : Nat) (μ : Mm) : Prop := ∃ f33 g34, μ o = some (.inl (5, f33)) ∧ f33[5]? = some (.ref g34) ∧ (∃ f48, μ g34 = some (.inl (3, f48))) ∧ wp_X4_append g34 v3 μ (fun μ38 => ∃ f39 g40, μ38 o = some (.inl (5, f39)) ∧ f39[5]? = some (.ref g40) ∧ (∃ f46, μ38 g40 = some (.inl (3, f46))) ∧ wp_X4_size g40 μ38 (fun r43 μ44 => post r43 μ44))
set_option maxHeartbeats 4000000 in
set_option maxRecDepth 100000 in
theorem tb_X6_part_48 {p : Program} {l : Launch} {e : Env} {s : State} {m : MethodId} {args : Array Value} {below : List Frame} {meth : Method} {c : Code} {G : gG} {A : Nat → Prop} {o : Nat} {post : Int32 → Mm → Prop} {px : String → Mm → Prop} (X : Cx p l s m args meth c cX6_part 4 (some .int) RX6 G A) (hout : ∀ x ∈ c.exceptionTable.toList, False) (hl0 : l.stackTraces = false) : ∀ (v3 : Nat) (μ : Mm), wb_X6_part_48 o post px v3 μ → J p l e (rmL (2) 2 12) s m args below meth c 4 G A (vx_MQ below (QG G A (pI post)) (XG G A px) args s 2 12 A) 1 6 48 [(0, .ref o), (3, .ref v3)] [] μ := by
  intro v3 μ hw
  unfold wb_X6_part_48 at hw
  refine j_aload_n X (pc' := 49) (kk := 0) (i := 0) 0 rfl rfl dX6_part_48 rfl ?_
  obtain ⟨f33, g34, hm35, hv36, hw1⟩ := hw
  refine j_getf X (pc' := 52) hm35 5 hv36 rfl fw_TX6 (by decide) wt_1_103 dX6_part_49 rfl ?_
  refine j_aload_n X (pc' := 53) (kk := 3) (i := 3) 1 rfl rfl dX6_part_52 rfl ?_
  obtain ⟨⟨f48, hm47⟩, hw2⟩ := hw1
  refine j_callVv (As := [.ref v3]) (rest := []) X (pc' := 56) (cells' := 1) (slots' := 6) (c_X4_append l G A g34 v3 μ _ hw2) (gk_X4_append wt_2_107) hd_X4_append (rmL_fit (k1 := 0) (k := 2) (by omega) (by decide)) hm47 rfl rfl rfl (Nat.le_of_ble_eq_true rfl) dX6_part_53 rfl ⟨Nat.le_of_ble_eq_true rfl, Nat.le_of_ble_eq_true rfl⟩ rfl rfl (fun μ38 hw3 => ?_)
  refine j_aload_n X (pc' := 57) (kk := 0) (i := 0) 0 rfl rfl dX6_part_56 rfl ?_
  obtain ⟨f39, g40, hm41, hv42, hw4⟩ := hw3
  refine j_getf X (pc' := 60) hm41 5 hv42 rfl fw_TX6 (by decide) wt_1_103 dX6_part_57 rfl ?_
  obtain ⟨⟨f46, hm45⟩, hw5⟩ := hw4
  refine j_callVi (As := []) (rest := []) X (pc' := 63) (cells' := 1) (slots' := 6) (c_X4_size l G A g40 μ38 _ hw5) (gk_X4_size wt_1_132) hd_X4_size (rmL_fit (k1 := 0) (k := 2) (by omega) (by decide)) hm45 rfl rfl rfl (Nat.le_of_ble_eq_true rfl) dX6_part_60 rfl ⟨Nat.le_of_ble_eq_true rfl, Nat.le_of_ble_eq_true rfl⟩ rfl rfl (fun r43 μ44 hw6 => ?_)
  exact j_x (j_iret X ⟨_, rfl, hw6⟩ (Nat.le_of_ble_eq_true rfl) (Nat.le_of_ble_eq_true rfl) dX6_part_63)
def wp_X6_part (o : Nat) (x1 : Int32) (x2 : Int32) (μ : Mm) (post : Int32 → Mm → Prop) (px : String → Mm → Prop) : Prop := (∃ f32, μ o = some (.inl (5, f32))) ∧ wp_X6_typeNumbered o x1 μ (fun r1 μ2 => ∃ f3 g4, μ2 o = some (.inl (5, f3)) ∧ f3[5]? = some (.ref g4) ∧ (∃ f29, μ2 g4 = some (.inl (3, f29))) ∧ wp_X4_isFull g4 μ2 (fun r7 μ8 => (r7 = 0 → ((x2 = 0 → (wb_X6_part_48 o post px r1 μ8)) ∧ (¬ x2 = 0 → (∃ f11 g12, μ8 o = some (.inl (5, f11)) ∧ f11[6]? = some (.int g12) ∧ ∃ f15 g16, μ8 o = some (.inl (5, f15)) ∧ f15[5]? = some (.ref g16) ∧ (∃ f27, μ8 g16 = some (.inl (3, f27))) ∧ wp_X4_size g16 μ8 (fun r19 μ20 => ∃ f21, μ20 o = some (.inl (5, f21)) ∧ 6 < f21.length ∧ ∀ μ24, μ24 = ups μ20 o (.inl (5, f21.set 6 (.int (g12 ||| ((1 : Int32) <<< (r19 &&& 31)))))) → wb_X6_part_48 o post px r1 μ24))))) ∧ (¬ r7 = 0 → (px "java/lang/IllegalStateException" μ8)))) px
set_option maxHeartbeats 4000000 in
set_option maxRecDepth 100000 in
theorem c_X6_part (l : Launch) (G : gG) (A : Nat → Prop) (hl0 : l.stackTraces = false) (o : Nat) (x1 : Int32) (x2 : Int32) (μ : Mm) (post : Int32 → Mm → Prop) (px : String → Mm → Prop) (h : wp_X6_part o x1 x2 μ post px) : vx_Met l yX6_part (.code yX6_part cX6_part 4 (some .int) :: wsA) (rmL (2) 2 12) (PcG G A μ [.ref o, .int x1, .int x2]) (QG G A (pI post)) (XG G A px) 2 12 A := by
  refine metx_J (loc := [(0, .ref o), (1, .int x1), (2, .int x2)]) (by decide +kernel) (Nat.le_of_ble_eq_true rfl) rfl ?_
  intro p e s m args below meth c X hout
  have X : Cx p l s m args meth c cX6_part 4 (some .int) RX6 G A := X
  have hw := h
  unfold wp_X6_part at hw
  refine j_aload_n X (pc' := 1) (kk := 0) (i := 0) 0 rfl rfl dX6_part_0 rfl ?_
  refine j_iload_n X (pc' := 2) (kk := 1) (i := 1) 1 rfl rfl dX6_part_1 rfl ?_
  obtain ⟨⟨f32, hm31⟩, hw1⟩ := hw
  refine jx_callVn (As := [.int x1]) (rest := []) X (pc' := 5) (cells' := 1) (slots' := 6) hout (c_X6_typeNumbered l G A hl0 o x1 μ _ _ hw1) (gk_X6_typeNumbered wt_2_121) hd_X6_typeNumbered (rmL_fit (k1 := 1) (k := 2) (by omega) (by decide)) hm31 rfl rfl rfl (Nat.le_of_ble_eq_true rfl) dX6_part_2 rfl ⟨Nat.le_of_ble_eq_true rfl, Nat.le_of_ble_eq_true rfl⟩ rfl rfl (Nat.le_of_ble_eq_true rfl) (Nat.le_of_ble_eq_true rfl) (fun r1 μ2 hw2 => ?_)
  refine j_astore_n X (pc' := 6) (kk := 3) (i := 3) (loc' := [(3, .ref r1), (0, .ref o), (1, .int x1), (2, .int x2)]) dX6_part_5 rfl rfl (by decide) rfl ?_
  refine j_aload_n X (pc' := 7) (kk := 0) (i := 0) 1 rfl rfl dX6_part_6 rfl ?_
  obtain ⟨f3, g4, hm5, hv6, hw3⟩ := hw2
  refine j_getf X (pc' := 10) hm5 5 hv6 rfl fw_TX6 (by decide) wt_1_103 dX6_part_7 rfl ?_
  obtain ⟨⟨f29, hm28⟩, hw4⟩ := hw3
  refine j_callVi (As := []) (rest := []) X (pc' := 13) (cells' := 1) (slots' := 6) (c_X4_isFull l G A g4 μ2 _ hw4) (gk_X4_isFull wt_2_50) hd_X4_isFull (rmL_fit (k1 := 0) (k := 2) (by omega) (by decide)) hm28 rfl rfl rfl (Nat.le_of_ble_eq_true rfl) dX6_part_10 rfl ⟨Nat.le_of_ble_eq_true rfl, Nat.le_of_ble_eq_true rfl⟩ rfl rfl (fun r7 μ8 hw5 => ?_)
  refine j_if_eq X (pc' := 16) (tgt := 26) dX6_part_13 rfl (by decide) (fun c9 => ?_) (fun c9 => ?_)
  · have hw6 := hw5.1 c9
    refine j_iload_n X (pc' := 27) (kk := 2) (i := 2) 3 rfl rfl dX6_part_26 rfl ?_
    refine j_if_eq X (pc' := 30) (tgt := 48) dX6_part_27 rfl (by decide) (fun c10 => ?_) (fun c10 => ?_)
    · have hw7 := hw6.1 c10
      refine j_loc [1, 0] rfl ?_
      exact tb_X6_part_48 X hout hl0 _ _ hw7
    · have hw8 := hw6.2 c10
      refine j_aload_n X (pc' := 31) (kk := 0) (i := 0) 1 rfl rfl dX6_part_30 rfl ?_
      refine j_dup X (pc' := 32) rfl dX6_part_31 rfl ?_
      obtain ⟨f11, g12, hm13, hv14, hw9⟩ := hw8
      refine j_getf X (pc' := 35) hm13 6 hv14 rfl fw_TX6 (by decide) wt_1_104 dX6_part_32 rfl ?_
      refine j_iconst X (pc' := 36) (v := 1) (by decide) dX6_part_35 rfl ?_
      refine j_aload_n X (pc' := 37) (kk := 0) (i := 0) 1 rfl rfl dX6_part_36 rfl ?_
      obtain ⟨f15, g16, hm17, hv18, hw10⟩ := hw9
      refine j_getf X (pc' := 40) hm17 5 hv18 rfl fw_TX6 (by decide) wt_1_103 dX6_part_37 rfl ?_
      obtain ⟨⟨f27, hm26⟩, hw11⟩ := hw10
      refine j_callVi (As := []) (rest := [.int ((1 : Int32)), .int g12, .ref o]) X (pc' := 43) (cells' := 1) (slots' := 6) (c_X4_size l G A g16 μ8 _ hw11) (gk_X4_size wt_1_132) hd_X4_size (rmL_fit (k1 := 0) (k := 2) (by omega) (by decide)) hm26 rfl rfl rfl (Nat.le_of_ble_eq_true rfl) dX6_part_40 rfl ⟨Nat.le_of_ble_eq_true rfl, Nat.le_of_ble_eq_true rfl⟩ rfl rfl (fun r19 μ20 hw12 => ?_)
      refine j_ishl X (pc' := 44) dX6_part_43 rfl ?_
      refine j_ior X (pc' := 45) dX6_part_44 rfl ?_
      obtain ⟨f21, hm22, hl23, hw13⟩ := hw12
      refine jp_putf X (pc' := 48) (ty := .int) hm22 6 hl23 rfl fw_TX6 tyX6_ok nmX6 (by decide) rfl wt_1_104 (by decide +kernel) rfl rfl dX6_part_45 rfl (fun μ24 e25 => ?_)
      have hw14 := hw13 μ24 e25
      refine j_loc [1, 0] rfl ?_
      exact tb_X6_part_48 X hout hl0 _ _ hw14
  · have hw15 := hw5.2 c9
    exact jx_throw X hout hl0 (List.mem_of_getElem? (i := 1) rfl) (List.mem_of_getElem? (i := 2) rfl) wt_2_91 wt_1_14 xg_1 xn_1 (by decide +kernel) xk_1 dX6_part_16 dX6_part_19 dX6_part_20 dX6_part_22 dX6_part_25 (Nat.le_of_ble_eq_true rfl) (Nat.le_of_ble_eq_true rfl) (Nat.le_of_ble_eq_true rfl) (Nat.le_of_ble_eq_true rfl) (Nat.le_of_ble_eq_true rfl) (Nat.le_of_ble_eq_true rfl) hw15
/-! BitNotation.keepDraft(LBitNotation$Type;)I -/
theorem dX6_keepDraft_0 : decode cX6_keepDraft 0 = .ok (.aload_n 0, 1) := by decide +kernel
theorem dX6_keepDraft_1 : decode cX6_keepDraft 1 = .ok (.getfield 42, 3) := by decide +kernel
theorem dX6_keepDraft_4 : decode cX6_keepDraft 4 = .ok (.invokevirtual 97, 3) := by decide +kernel
theorem dX6_keepDraft_7 : decode cX6_keepDraft 7 = .ok (.ifCond .ne 13, 3) := by decide +kernel
theorem dX6_keepDraft_10 : decode cX6_keepDraft 10 = .ok (.new 92, 3) := by decide +kernel
theorem dX6_keepDraft_13 : decode cX6_keepDraft 13 = .ok (.dup, 1) := by decide +kernel
theorem dX6_keepDraft_14 : decode cX6_keepDraft 14 = .ok (.ldc 197, 2) := by decide +kernel
theorem dX6_keepDraft_16 : decode cX6_keepDraft 16 = .ok (.invokespecial 96, 3) := by decide +kernel
theorem dX6_keepDraft_19 : decode cX6_keepDraft 19 = .ok (.athrow, 1) := by decide +kernel
theorem dX6_keepDraft_20 : decode cX6_keepDraft 20 = .ok (.aload_n 0, 1) := by decide +kernel
theorem dX6_keepDraft_21 : decode cX6_keepDraft 21 = .ok (.aload_n 1, 1) := by decide +kernel
theorem dX6_keepDraft_22 : decode cX6_keepDraft 22 = .ok (.invokevirtual 71, 3) := by decide +kernel
theorem dX6_keepDraft_25 : decode cX6_keepDraft 25 = .ok (.istore_n 2, 1) := by decide +kernel
theorem dX6_keepDraft_26 : decode cX6_keepDraft 26 = .ok (.aload_n 0, 1) := by decide +kernel
theorem dX6_keepDraft_27 : decode cX6_keepDraft 27 = .ok (.new 7, 3) := by decide +kernel
theorem dX6_keepDraft_30 : decode cX6_keepDraft 30 = .ok (.dup, 1) := by decide +kernel
theorem dX6_keepDraft_31 : decode cX6_keepDraft 31 = .ok (.bipush 6, 2) := by decide +kernel
theorem dX6_keepDraft_33 : decode cX6_keepDraft 33 = .ok (.invokespecial 11, 3) := by decide +kernel
theorem dX6_keepDraft_36 : decode cX6_keepDraft 36 = .ok (.putfield 42, 3) := by decide +kernel
theorem dX6_keepDraft_39 : decode cX6_keepDraft 39 = .ok (.aload_n 0, 1) := by decide +kernel
theorem dX6_keepDraft_40 : decode cX6_keepDraft 40 = .ok (.iconst 0, 1) := by decide +kernel
theorem dX6_keepDraft_41 : decode cX6_keepDraft 41 = .ok (.putfield 45, 3) := by decide +kernel
theorem dX6_keepDraft_44 : decode cX6_keepDraft 44 = .ok (.iload_n 2, 1) := by decide +kernel
theorem dX6_keepDraft_45 : decode cX6_keepDraft 45 = .ok (.ireturn, 1) := by decide +kernel
def wp_X6_keepDraft (o : Nat) (kd : Nat → Nat) (x1 : Nat) (μ : Mm) (post : Int32 → Mm → Prop) (px : String → Mm → Prop) : Prop := ∃ f1 g2, μ o = some (.inl (5, f1)) ∧ f1[5]? = some (.ref g2) ∧ (∃ f30, μ g2 = some (.inl (3, f30))) ∧ wp_X4_size g2 μ (fun r5 μ6 => (¬ r5 = 0 → ((∃ f28, μ6 o = some (.inl (5, f28))) ∧ wp_X6_keep o kd x1 μ6 (fun r8 μ9 => ∀ q10, μ9 q10 = none → ∀ μ12, μ12 = ups μ9 q10 (.inl (3, [.null, .int 0])) → wp_X4_init q10 6 (6 : Int32) μ12 (fun μ15 => ∃ f16, μ15 o = some (.inl (5, f16)) ∧ 5 < f16.length ∧ ∀ μ19, μ19 = ups μ15 o (.inl (5, f16.set 5 (.ref q10))) → ∃ f21, μ19 o = some (.inl (5, f21)) ∧ 6 < f21.length ∧ ∀ μ24, μ24 = ups μ19 o (.inl (5, f21.set 6 (.int (0 : Int32)))) → post r8 μ24)) px)) ∧ (r5 = 0 → (px "java/lang/IllegalStateException" μ6)))
set_option maxHeartbeats 4000000 in
set_option maxRecDepth 100000 in
theorem c_X6_keepDraft (l : Launch) (G : gG) (A : Nat → Prop) (hl0 : l.stackTraces = false) (kd : Nat → Nat) (hkd : G.2.2 = kd) (o : Nat) (x1 : Nat) (μ : Mm) (post : Int32 → Mm → Prop) (px : String → Mm → Prop) (h : wp_X6_keepDraft o kd x1 μ post px) : vx_Met l yX6_keepDraft (.code yX6_keepDraft cX6_keepDraft 3 (some .int) :: wsA) (rmL (4) 3 14) (PcG G A μ [.ref o, .ref x1]) (QG G A (pI post)) (XG G A px) 3 14 A := by
  refine metx_J (loc := [(0, .ref o), (1, .ref x1)]) (by decide +kernel) (Nat.le_of_ble_eq_true rfl) rfl ?_
  intro p e s m args below meth c X hout
  have X : Cx p l s m args meth c cX6_keepDraft 3 (some .int) RX6 G A := X
  have hw := h
  unfold wp_X6_keepDraft at hw
  refine j_aload_n X (pc' := 1) (kk := 0) (i := 0) 0 rfl rfl dX6_keepDraft_0 rfl ?_
  obtain ⟨f1, g2, hm3, hv4, hw1⟩ := hw
  refine j_getf X (pc' := 4) hm3 5 hv4 rfl fw_TX6 (by decide) wt_1_103 dX6_keepDraft_1 rfl ?_
  obtain ⟨⟨f30, hm29⟩, hw2⟩ := hw1
  refine j_callVi (As := []) (rest := []) X (pc' := 7) (cells' := 0) (slots' := 0) (c_X4_size l G A g2 μ _ hw2) (gk_X4_size wt_1_132) hd_X4_size (rmL_fit (k1 := 0) (k := 4) (by omega) (by decide)) hm29 rfl rfl rfl (Nat.le_of_ble_eq_true rfl) dX6_keepDraft_4 rfl ⟨Nat.le_of_ble_eq_true rfl, Nat.le_of_ble_eq_true rfl⟩ rfl rfl (fun r5 μ6 hw3 => ?_)
  refine j_if_ne X (pc' := 10) (tgt := 20) dX6_keepDraft_7 rfl (by decide) (fun c7 => ?_) (fun c7 => ?_)
  · have hw4 := hw3.1 c7
    refine j_aload_n X (pc' := 21) (kk := 0) (i := 0) 0 rfl rfl dX6_keepDraft_20 rfl ?_
    refine j_aload_n X (pc' := 22) (kk := 1) (i := 1) 1 rfl rfl dX6_keepDraft_21 rfl ?_
    obtain ⟨⟨f28, hm27⟩, hw5⟩ := hw4
    refine jx_callVi (As := [.ref x1]) (rest := []) X (pc' := 25) (cells' := 1) (slots' := 6) hout (c_X6_keep l G A hl0 kd hkd o x1 μ6 _ _ hw5) (gk_X6_keep wt_2_46) hd_X6_keep (rmL_fit (k1 := 3) (k := 4) (by omega) (by decide)) hm27 rfl rfl rfl (Nat.le_of_ble_eq_true rfl) dX6_keepDraft_22 rfl ⟨Nat.le_of_ble_eq_true rfl, Nat.le_of_ble_eq_true rfl⟩ rfl rfl (Nat.le_of_ble_eq_true rfl) (Nat.le_of_ble_eq_true rfl) (fun r8 μ9 hw6 => ?_)
    refine j_istore_n X (pc' := 26) (kk := 2) (i := 2) (loc' := [(2, .int r8), (0, .ref o), (1, .ref x1)]) dX6_keepDraft_25 rfl rfl (by decide) rfl ?_
    refine j_aload_n X (pc' := 27) (kk := 0) (i := 0) 1 rfl rfl dX6_keepDraft_26 rfl ?_
    refine jp_new X (pc' := 30) (cells' := 2) (slots' := 8) (ci := 3) (fs := [.null, .int 0]) rfl fw_TX4 tyX4_ok wt_1_24 wt_1_25 wt_1_2 df_X4 (Nat.le_of_ble_eq_true rfl) (Nat.le_of_ble_eq_true rfl) rfl rfl dX6_keepDraft_27 rfl (fun q10 hq11 μ12 e13 => ?_)
    have hw7 := hw6 q10 hq11 μ12 e13
    refine j_dup X (pc' := 31) rfl dX6_keepDraft_30 rfl ?_
    refine j_bipush X (pc' := 33) (v := 6) (by decide) dX6_keepDraft_31 rfl ?_
    refine j_callIv (As := [.int (6 : Int32)]) (rest := [.ref q10, .ref o]) X (pc' := 36) (cells' := 3) (slots' := 14) (c_X4_init l G A 6 (by decide) q10 (6 : Int32) μ12 _ hw7) wt_1_26 wt_1_27 wt_1_2 wt_1_28 rfl hd_X4_init (rmL_fit (k1 := 0) (k := 4) (by omega) (by decide)) rfl rfl (Nat.le_of_ble_eq_true rfl) dX6_keepDraft_33 rfl ⟨Nat.le_of_ble_eq_true rfl, Nat.le_of_ble_eq_true rfl⟩ rfl rfl (fun μ15 hw8 => ?_)
    obtain ⟨f16, hm17, hl18, hw9⟩ := hw8
    refine jp_putf X (pc' := 39) (ty := (.object "BitNotation$TypeRow")) hm17 5 hl18 rfl fw_TX6 tyX6_ok nmX6 (by decide) rfl wt_1_103 (by decide +kernel) rfl rfl dX6_keepDraft_36 rfl (fun μ19 e20 => ?_)
    have hw10 := hw9 μ19 e20
    refine j_aload_n X (pc' := 40) (kk := 0) (i := 0) 1 rfl rfl dX6_keepDraft_39 rfl ?_
    refine j_iconst X (pc' := 41) (v := 0) (by decide) dX6_keepDraft_40 rfl ?_
    obtain ⟨f21, hm22, hl23, hw11⟩ := hw10
    refine jp_putf X (pc' := 44) (ty := .int) hm22 6 hl23 rfl fw_TX6 tyX6_ok nmX6 (by decide) rfl wt_1_104 (by decide +kernel) rfl rfl dX6_keepDraft_41 rfl (fun μ24 e25 => ?_)
    have hw12 := hw11 μ24 e25
    refine j_iload_n X (pc' := 45) (kk := 2) (i := 2) 0 rfl rfl dX6_keepDraft_44 rfl ?_
    exact j_x (j_iret X ⟨_, rfl, hw12⟩ (Nat.le_of_ble_eq_true rfl) (Nat.le_of_ble_eq_true rfl) dX6_keepDraft_45)
  · have hw13 := hw3.2 c7
    exact jx_throw X hout hl0 (List.mem_of_getElem? (i := 1) rfl) (List.mem_of_getElem? (i := 15) rfl) wt_2_91 wt_1_14 xg_1 xn_1 (by decide +kernel) xk_1 dX6_keepDraft_10 dX6_keepDraft_13 dX6_keepDraft_14 dX6_keepDraft_16 dX6_keepDraft_19 (Nat.le_of_ble_eq_true rfl) (Nat.le_of_ble_eq_true rfl) (Nat.le_of_ble_eq_true rfl) (Nat.le_of_ble_eq_true rfl) (Nat.le_of_ble_eq_true rfl) (Nat.le_of_ble_eq_true rfl) hw13
/-! BitNotation.addSequence()I -/
theorem dX6_addSequence_0 : decode cX6_addSequence 0 = .ok (.aload_n 0, 1) := by decide +kernel
theorem dX6_addSequence_1 : decode cX6_addSequence 1 = .ok (.new 60, 3) := by decide +kernel
theorem dX6_addSequence_4 : decode cX6_addSequence 4 = .ok (.dup, 1) := by decide +kernel
theorem dX6_addSequence_5 : decode cX6_addSequence 5 = .ok (.getstatic 101, 3) := by decide +kernel
theorem dX6_addSequence_8 : decode cX6_addSequence 8 = .ok (.iconst 0, 1) := by decide +kernel
theorem dX6_addSequence_9 : decode cX6_addSequence 9 = .ok (.iconst 0, 1) := by decide +kernel
theorem dX6_addSequence_10 : decode cX6_addSequence 10 = .ok (.aload_n 0, 1) := by decide +kernel
theorem dX6_addSequence_11 : decode cX6_addSequence 11 = .ok (.getfield 42, 3) := by decide +kernel
theorem dX6_addSequence_14 : decode cX6_addSequence 14 = .ok (.aload_n 0, 1) := by decide +kernel
theorem dX6_addSequence_15 : decode cX6_addSequence 15 = .ok (.getfield 45, 3) := by decide +kernel
theorem dX6_addSequence_18 : decode cX6_addSequence 18 = .ok (.invokespecial 68, 3) := by decide +kernel
theorem dX6_addSequence_21 : decode cX6_addSequence 21 = .ok (.invokevirtual 104, 3) := by decide +kernel
theorem dX6_addSequence_24 : decode cX6_addSequence 24 = .ok (.ireturn, 1) := by decide +kernel
def wp_X6_addSequence (o : Nat) (kd : Nat → Nat) (μ : Mm) (post : Int32 → Mm → Prop) (px : String → Mm → Prop) : Prop := ∀ q1, μ q1 = none → ∀ μ3, μ3 = ups μ q1 (.inl (2, [.null, .int 0, .int 0, .int 0, .null, .int 0, .null, .int 0, .int 0, .int 0])) → ∃ f5 g6, μ3 o = some (.inl (5, f5)) ∧ f5[5]? = some (.ref g6) ∧ ∃ f9 g10, μ3 o = some (.inl (5, f9)) ∧ f9[6]? = some (.int g10) ∧ wp_X3_init q1 kd (kd 2) (0 : Int32) (0 : Int32) g6 g10 μ3 (fun μ14 => (∃ f18, μ14 o = some (.inl (5, f18))) ∧ wp_X6_keepDraft o kd q1 μ14 (fun r15 μ16 => post r15 μ16) px)
set_option maxHeartbeats 4000000 in
set_option maxRecDepth 100000 in
theorem c_X6_addSequence (l : Launch) (G : gG) (A : Nat → Prop) (hl0 : l.stackTraces = false) (kd : Nat → Nat) (hkd : G.2.2 = kd) (o : Nat) (μ : Mm) (post : Int32 → Mm → Prop) (px : String → Mm → Prop) (h : wp_X6_addSequence o kd μ post px) : vx_Met l yX6_addSequence (.code yX6_addSequence cX6_addSequence 1 (some .int) :: wsA) (rmL (5) 6 29) (PcG G A μ [.ref o]) (QG G A (pI post)) (XG G A px) 6 29 A := by
  refine metx_J (loc := [(0, .ref o)]) (by decide +kernel) (Nat.le_of_ble_eq_true rfl) rfl ?_
  intro p e s m args below meth c X hout
  have X : Cx p l s m args meth c cX6_addSequence 1 (some .int) RX6 G A := X
  have hw := h
  unfold wp_X6_addSequence at hw
  refine j_aload_n X (pc' := 1) (kk := 0) (i := 0) 0 rfl rfl dX6_addSequence_0 rfl ?_
  refine jp_new X (pc' := 4) (cells' := 1) (slots' := 10) (ci := 2) (fs := [.null, .int 0, .int 0, .int 0, .null, .int 0, .null, .int 0, .int 0, .int 0]) rfl fw_TX3 tyX3_ok wt_1_224 wt_1_225 wt_1_11 df_X3 (Nat.le_of_ble_eq_true rfl) (Nat.le_of_ble_eq_true rfl) rfl rfl dX6_addSequence_1 rfl (fun q1 hq2 μ3 e4 => ?_)
  have hw1 := hw q1 hq2 μ3 e4
  refine j_dup X (pc' := 5) rfl dX6_addSequence_4 rfl ?_
  refine jp_kind X (pc' := 8) hkd 2 (by decide) wt_2_160 dX6_addSequence_5 rfl ?_
  refine j_iconst X (pc' := 9) (v := 0) (by decide) dX6_addSequence_8 rfl ?_
  refine j_iconst X (pc' := 10) (v := 0) (by decide) dX6_addSequence_9 rfl ?_
  refine j_aload_n X (pc' := 11) (kk := 0) (i := 0) 0 rfl rfl dX6_addSequence_10 rfl ?_
  obtain ⟨f5, g6, hm7, hv8, hw2⟩ := hw1
  refine j_getf X (pc' := 14) hm7 5 hv8 rfl fw_TX6 (by decide) wt_1_103 dX6_addSequence_11 rfl ?_
  refine j_aload_n X (pc' := 15) (kk := 0) (i := 0) 0 rfl rfl dX6_addSequence_14 rfl ?_
  obtain ⟨f9, g10, hm11, hv12, hw3⟩ := hw2
  refine j_getf X (pc' := 18) hm11 6 hv12 rfl fw_TX6 (by decide) wt_1_104 dX6_addSequence_15 rfl ?_
  refine j_callIv (As := [.ref (kd 2), .int (0 : Int32), .int (0 : Int32), .ref g6, .int g10]) (rest := [.ref q1, .ref o]) X (pc' := 21) (cells' := 3) (slots' := 15) (c_X3_init l G A kd hkd q1 (kd 2) (0 : Int32) (0 : Int32) g6 g10 μ3 _ hw3) wt_1_228 wt_1_229 wt_1_11 wt_1_230 rfl hd_X3_init (rmL_fit (k1 := 1) (k := 5) (by omega) (by decide)) rfl rfl (Nat.le_of_ble_eq_true rfl) dX6_addSequence_18 rfl ⟨Nat.le_of_ble_eq_true rfl, Nat.le_of_ble_eq_true rfl⟩ rfl rfl (fun μ14 hw4 => ?_)
  obtain ⟨⟨f18, hm17⟩, hw5⟩ := hw4
  refine jx_callVi (As := [.ref q1]) (rest := []) X (pc' := 24) (cells' := 6) (slots' := 29) hout (c_X6_keepDraft l G A hl0 kd hkd o q1 μ14 _ _ hw5) (gk_X6_keepDraft wt_3_155) hd_X6_keepDraft (rmL_fit (k1 := 4) (k := 5) (by omega) (by decide)) hm17 rfl rfl rfl (Nat.le_of_ble_eq_true rfl) dX6_addSequence_21 rfl ⟨Nat.le_of_ble_eq_true rfl, Nat.le_of_ble_eq_true rfl⟩ rfl rfl (Nat.le_of_ble_eq_true rfl) (Nat.le_of_ble_eq_true rfl) (fun r15 μ16 hw6 => ?_)
  exact j_x (j_iret X ⟨_, rfl, hw6⟩ (Nat.le_of_ble_eq_true rfl) (Nat.le_of_ble_eq_true rfl) dX6_addSequence_24)
/-! BitNotation.addChoice()I -/
theorem dX6_addChoice_0 : decode cX6_addChoice 0 = .ok (.aload_n 0, 1) := by decide +kernel
theorem dX6_addChoice_1 : decode cX6_addChoice 1 = .ok (.new 60, 3) := by decide +kernel
theorem dX6_addChoice_4 : decode cX6_addChoice 4 = .ok (.dup, 1) := by decide +kernel
theorem dX6_addChoice_5 : decode cX6_addChoice 5 = .ok (.getstatic 107, 3) := by decide +kernel
theorem dX6_addChoice_8 : decode cX6_addChoice 8 = .ok (.iconst 0, 1) := by decide +kernel
theorem dX6_addChoice_9 : decode cX6_addChoice 9 = .ok (.aload_n 0, 1) := by decide +kernel
theorem dX6_addChoice_10 : decode cX6_addChoice 10 = .ok (.getfield 42, 3) := by decide +kernel
theorem dX6_addChoice_13 : decode cX6_addChoice 13 = .ok (.invokevirtual 97, 3) := by decide +kernel
theorem dX6_addChoice_16 : decode cX6_addChoice 16 = .ok (.iconst 1, 1) := by decide +kernel
theorem dX6_addChoice_17 : decode cX6_addChoice 17 = .ok (.isub, 1) := by decide +kernel
theorem dX6_addChoice_18 : decode cX6_addChoice 18 = .ok (.aload_n 0, 1) := by decide +kernel
theorem dX6_addChoice_19 : decode cX6_addChoice 19 = .ok (.getfield 42, 3) := by decide +kernel
theorem dX6_addChoice_22 : decode cX6_addChoice 22 = .ok (.iconst 0, 1) := by decide +kernel
theorem dX6_addChoice_23 : decode cX6_addChoice 23 = .ok (.invokespecial 68, 3) := by decide +kernel
theorem dX6_addChoice_26 : decode cX6_addChoice 26 = .ok (.invokevirtual 104, 3) := by decide +kernel
theorem dX6_addChoice_29 : decode cX6_addChoice 29 = .ok (.ireturn, 1) := by decide +kernel
def wp_X6_addChoice (o : Nat) (kd : Nat → Nat) (μ : Mm) (post : Int32 → Mm → Prop) (px : String → Mm → Prop) : Prop := ∀ q1, μ q1 = none → ∀ μ3, μ3 = ups μ q1 (.inl (2, [.null, .int 0, .int 0, .int 0, .null, .int 0, .null, .int 0, .int 0, .int 0])) → ∃ f5 g6, μ3 o = some (.inl (5, f5)) ∧ f5[5]? = some (.ref g6) ∧ (∃ f23, μ3 g6 = some (.inl (3, f23))) ∧ wp_X4_size g6 μ3 (fun r9 μ10 => ∃ f11 g12, μ10 o = some (.inl (5, f11)) ∧ f11[5]? = some (.ref g12) ∧ wp_X3_init q1 kd (kd 3) (0 : Int32) (r9 - (1 : Int32)) g12 (0 : Int32) μ10 (fun μ16 => (∃ f20, μ16 o = some (.inl (5, f20))) ∧ wp_X6_keepDraft o kd q1 μ16 (fun r17 μ18 => post r17 μ18) px))
set_option maxHeartbeats 4000000 in
set_option maxRecDepth 100000 in
theorem c_X6_addChoice (l : Launch) (G : gG) (A : Nat → Prop) (hl0 : l.stackTraces = false) (kd : Nat → Nat) (hkd : G.2.2 = kd) (o : Nat) (μ : Mm) (post : Int32 → Mm → Prop) (px : String → Mm → Prop) (h : wp_X6_addChoice o kd μ post px) : vx_Met l yX6_addChoice (.code yX6_addChoice cX6_addChoice 1 (some .int) :: wsA) (rmL (5) 6 29) (PcG G A μ [.ref o]) (QG G A (pI post)) (XG G A px) 6 29 A := by
  refine metx_J (loc := [(0, .ref o)]) (by decide +kernel) (Nat.le_of_ble_eq_true rfl) rfl ?_
  intro p e s m args below meth c X hout
  have X : Cx p l s m args meth c cX6_addChoice 1 (some .int) RX6 G A := X
  have hw := h
  unfold wp_X6_addChoice at hw
  refine j_aload_n X (pc' := 1) (kk := 0) (i := 0) 0 rfl rfl dX6_addChoice_0 rfl ?_
  refine jp_new X (pc' := 4) (cells' := 1) (slots' := 10) (ci := 2) (fs := [.null, .int 0, .int 0, .int 0, .null, .int 0, .null, .int 0, .int 0, .int 0]) rfl fw_TX3 tyX3_ok wt_1_224 wt_1_225 wt_1_11 df_X3 (Nat.le_of_ble_eq_true rfl) (Nat.le_of_ble_eq_true rfl) rfl rfl dX6_addChoice_1 rfl (fun q1 hq2 μ3 e4 => ?_)
  have hw1 := hw q1 hq2 μ3 e4
  refine j_dup X (pc' := 5) rfl dX6_addChoice_4 rfl ?_
  refine jp_kind X (pc' := 8) hkd 3 (by decide) wt_3_167 dX6_addChoice_5 rfl ?_
  refine j_iconst X (pc' := 9) (v := 0) (by decide) dX6_addChoice_8 rfl ?_
  refine j_aload_n X (pc' := 10) (kk := 0) (i := 0) 0 rfl rfl dX6_addChoice_9 rfl ?_
  obtain ⟨f5, g6, hm7, hv8, hw2⟩ := hw1
  refine j_getf X (pc' := 13) hm7 5 hv8 rfl fw_TX6 (by decide) wt_1_103 dX6_addChoice_10 rfl ?_
  obtain ⟨⟨f23, hm22⟩, hw3⟩ := hw2
  refine j_callVi (As := []) (rest := [.int ((0 : Int32)), .ref (kd 3), .ref q1, .ref q1, .ref o]) X (pc' := 16) (cells' := 1) (slots' := 10) (c_X4_size l G A g6 μ3 _ hw3) (gk_X4_size wt_1_132) hd_X4_size (rmL_fit (k1 := 0) (k := 5) (by omega) (by decide)) hm22 rfl rfl rfl (Nat.le_of_ble_eq_true rfl) dX6_addChoice_13 rfl ⟨Nat.le_of_ble_eq_true rfl, Nat.le_of_ble_eq_true rfl⟩ rfl rfl (fun r9 μ10 hw4 => ?_)
  refine j_iconst X (pc' := 17) (v := 1) (by decide) dX6_addChoice_16 rfl ?_
  refine j_isub X (pc' := 18) dX6_addChoice_17 rfl ?_
  refine j_aload_n X (pc' := 19) (kk := 0) (i := 0) 0 rfl rfl dX6_addChoice_18 rfl ?_
  obtain ⟨f11, g12, hm13, hv14, hw5⟩ := hw4
  refine j_getf X (pc' := 22) hm13 5 hv14 rfl fw_TX6 (by decide) wt_1_103 dX6_addChoice_19 rfl ?_
  refine j_iconst X (pc' := 23) (v := 0) (by decide) dX6_addChoice_22 rfl ?_
  refine j_callIv (As := [.ref (kd 3), .int (0 : Int32), .int (r9 - (1 : Int32)), .ref g12, .int (0 : Int32)]) (rest := [.ref q1, .ref o]) X (pc' := 26) (cells' := 3) (slots' := 15) (c_X3_init l G A kd hkd q1 (kd 3) (0 : Int32) (r9 - (1 : Int32)) g12 (0 : Int32) μ10 _ hw5) wt_1_228 wt_1_229 wt_1_11 wt_1_230 rfl hd_X3_init (rmL_fit (k1 := 1) (k := 5) (by omega) (by decide)) rfl rfl (Nat.le_of_ble_eq_true rfl) dX6_addChoice_23 rfl ⟨Nat.le_of_ble_eq_true rfl, Nat.le_of_ble_eq_true rfl⟩ rfl rfl (fun μ16 hw6 => ?_)
  obtain ⟨⟨f20, hm19⟩, hw7⟩ := hw6
  refine jx_callVi (As := [.ref q1]) (rest := []) X (pc' := 29) (cells' := 6) (slots' := 29) hout (c_X6_keepDraft l G A hl0 kd hkd o q1 μ16 _ _ hw7) (gk_X6_keepDraft wt_3_155) hd_X6_keepDraft (rmL_fit (k1 := 4) (k := 5) (by omega) (by decide)) hm19 rfl rfl rfl (Nat.le_of_ble_eq_true rfl) dX6_addChoice_26 rfl ⟨Nat.le_of_ble_eq_true rfl, Nat.le_of_ble_eq_true rfl⟩ rfl rfl (Nat.le_of_ble_eq_true rfl) (Nat.le_of_ble_eq_true rfl) (fun r17 μ18 hw8 => ?_)
  exact j_x (j_iret X ⟨_, rfl, hw8⟩ (Nat.le_of_ble_eq_true rfl) (Nat.le_of_ble_eq_true rfl) dX6_addChoice_29)
/-! BitNotation.extend(II)I -/
theorem dX6_extend_0 : decode cX6_extend 0 = .ok (.aload_n 0, 1) := by decide +kernel
theorem dX6_extend_1 : decode cX6_extend 1 = .ok (.iload_n 1, 1) := by decide +kernel
theorem dX6_extend_2 : decode cX6_extend 2 = .ok (.invokevirtual 75, 3) := by decide +kernel
theorem dX6_extend_5 : decode cX6_extend 5 = .ok (.astore_n 3, 1) := by decide +kernel
theorem dX6_extend_6 : decode cX6_extend 6 = .ok (.aload_n 0, 1) := by decide +kernel
theorem dX6_extend_7 : decode cX6_extend 7 = .ok (.iload_n 2, 1) := by decide +kernel
theorem dX6_extend_8 : decode cX6_extend 8 = .ok (.invokevirtual 75, 3) := by decide +kernel
theorem dX6_extend_11 : decode cX6_extend 11 = .ok (.astore 4, 2) := by decide +kernel
theorem dX6_extend_13 : decode cX6_extend 13 = .ok (.aload_n 3, 1) := by decide +kernel
theorem dX6_extend_14 : decode cX6_extend 14 = .ok (.getfield 110, 3) := by decide +kernel
theorem dX6_extend_17 : decode cX6_extend 17 = .ok (.getstatic 101, 3) := by decide +kernel
theorem dX6_extend_20 : decode cX6_extend 20 = .ok (.if_acmp .ne 8, 3) := by decide +kernel
theorem dX6_extend_23 : decode cX6_extend 23 = .ok (.iload_n 2, 1) := by decide +kernel
theorem dX6_extend_24 : decode cX6_extend 24 = .ok (.iload_n 1, 1) := by decide +kernel
theorem dX6_extend_25 : decode cX6_extend 25 = .ok (.if_icmp .lt 13, 3) := by decide +kernel
theorem dX6_extend_28 : decode cX6_extend 28 = .ok (.new 53, 3) := by decide +kernel
theorem dX6_extend_31 : decode cX6_extend 31 = .ok (.dup, 1) := by decide +kernel
theorem dX6_extend_32 : decode cX6_extend 32 = .ok (.ldc 113, 2) := by decide +kernel
theorem dX6_extend_34 : decode cX6_extend 34 = .ok (.invokespecial 57, 3) := by decide +kernel
theorem dX6_extend_37 : decode cX6_extend 37 = .ok (.athrow, 1) := by decide +kernel
theorem dX6_extend_38 : decode cX6_extend 38 = .ok (.aload_n 3, 1) := by decide +kernel
theorem dX6_extend_39 : decode cX6_extend 39 = .ok (.getfield 115, 3) := by decide +kernel
theorem dX6_extend_42 : decode cX6_extend 42 = .ok (.invokevirtual 88, 3) := by decide +kernel
theorem dX6_extend_45 : decode cX6_extend 45 = .ok (.ifCond .eq 13, 3) := by decide +kernel
theorem dX6_extend_48 : decode cX6_extend 48 = .ok (.new 92, 3) := by decide +kernel
theorem dX6_extend_51 : decode cX6_extend 51 = .ok (.dup, 1) := by decide +kernel
theorem dX6_extend_52 : decode cX6_extend 52 = .ok (.ldc 118, 2) := by decide +kernel
theorem dX6_extend_54 : decode cX6_extend 54 = .ok (.invokespecial 96, 3) := by decide +kernel
theorem dX6_extend_57 : decode cX6_extend 57 = .ok (.athrow, 1) := by decide +kernel
theorem dX6_extend_58 : decode cX6_extend 58 = .ok (.aload_n 3, 1) := by decide +kernel
theorem dX6_extend_59 : decode cX6_extend 59 = .ok (.getfield 115, 3) := by decide +kernel
theorem dX6_extend_62 : decode cX6_extend 62 = .ok (.aload 4, 2) := by decide +kernel
theorem dX6_extend_64 : decode cX6_extend 64 = .ok (.invokevirtual 81, 3) := by decide +kernel
theorem dX6_extend_67 : decode cX6_extend 67 = .ok (.aload_n 0, 1) := by decide +kernel
theorem dX6_extend_68 : decode cX6_extend 68 = .ok (.getfield 14, 3) := by decide +kernel
theorem dX6_extend_71 : decode cX6_extend 71 = .ok (.invokevirtual 120, 3) := by decide +kernel
theorem dX6_extend_74 : decode cX6_extend 74 = .ok (.ifCond .ne 28, 3) := by decide +kernel
theorem dX6_extend_77 : decode cX6_extend 77 = .ok (.aload_n 3, 1) := by decide +kernel
theorem dX6_extend_78 : decode cX6_extend 78 = .ok (.getfield 115, 3) := by decide +kernel
theorem dX6_extend_81 : decode cX6_extend 81 = .ok (.invokevirtual 123, 3) := by decide +kernel
theorem dX6_extend_84 : decode cX6_extend 84 = .ok (.aload_n 0, 1) := by decide +kernel
theorem dX6_extend_85 : decode cX6_extend 85 = .ok (.getfield 14, 3) := by decide +kernel
theorem dX6_extend_88 : decode cX6_extend 88 = .ok (.invokevirtual 120, 3) := by decide +kernel
theorem dX6_extend_91 : decode cX6_extend 91 = .ok (.pop, 1) := by decide +kernel
theorem dX6_extend_92 : decode cX6_extend 92 = .ok (.new 92, 3) := by decide +kernel
theorem dX6_extend_95 : decode cX6_extend 95 = .ok (.dup, 1) := by decide +kernel
theorem dX6_extend_96 : decode cX6_extend 96 = .ok (.ldc 126, 2) := by decide +kernel
theorem dX6_extend_98 : decode cX6_extend 98 = .ok (.invokespecial 96, 3) := by decide +kernel
theorem dX6_extend_101 : decode cX6_extend 101 = .ok (.athrow, 1) := by decide +kernel
theorem dX6_extend_102 : decode cX6_extend 102 = .ok (.aload_n 3, 1) := by decide +kernel
theorem dX6_extend_103 : decode cX6_extend 103 = .ok (.getfield 115, 3) := by decide +kernel
theorem dX6_extend_106 : decode cX6_extend 106 = .ok (.invokevirtual 97, 3) := by decide +kernel
theorem dX6_extend_109 : decode cX6_extend 109 = .ok (.ireturn, 1) := by decide +kernel
def wb_X6_extend_28 (o : Nat) (kd : Nat → Nat) (post : Int32 → Mm → Prop) (px : String → Mm → Prop)   (μ : Mm) : Prop := px "java/lang/IllegalArgumentException" μ
set_option maxHeartbeats 4000000 in
set_option maxRecDepth 100000 in
theorem tb_X6_extend_28 {p : Program} {l : Launch} {e : Env} {s : State} {m : MethodId} {args : Array Value} {below : List Frame} {meth : Method} {c : Code} {G : gG} {A : Nat → Prop} {o : Nat} {kd : Nat → Nat} {post : Int32 → Mm → Prop} {px : String → Mm → Prop} (X : Cx p l s m args meth c cX6_extend 5 (some .int) RX6 G A) (hout : ∀ x ∈ c.exceptionTable.toList, False) (hl0 : l.stackTraces = false) (hkd : G.2.2 = kd) : ∀ (μ : Mm), wb_X6_extend_28 o kd post px μ → J p l e (rmL (4) 3 18) s m args below meth c 5 G A (vx_MQ below (QG G A (pI post)) (XG G A px) args s 3 18 A) 2 12 28 [(0, .ref o)] [] μ := by
  intro μ hw
  unfold wb_X6_extend_28 at hw
  exact jx_throw X hout hl0 (List.mem_of_getElem? (i := 0) rfl) (List.mem_of_getElem? (i := 3) rfl) wt_1_156 wt_1_10 xg_0 xn_0 (by decide +kernel) xk_0 dX6_extend_28 dX6_extend_31 dX6_extend_32 dX6_extend_34 dX6_extend_37 (Nat.le_of_ble_eq_true rfl) (Nat.le_of_ble_eq_true rfl) (Nat.le_of_ble_eq_true rfl) (Nat.le_of_ble_eq_true rfl) (Nat.le_of_ble_eq_true rfl) (Nat.le_of_ble_eq_true rfl) hw
def wp_X6_extend (o : Nat) (kd : Nat → Nat) (x1 : Int32) (x2 : Int32) (μ : Mm) (post : Int32 → Mm → Prop) (px : String → Mm → Prop) : Prop := (∃ f66, μ o = some (.inl (5, f66))) ∧ wp_X6_typeNumbered o x1 μ (fun r1 μ2 => (∃ f63, μ2 o = some (.inl (5, f63))) ∧ wp_X6_typeNumbered o x2 μ2 (fun r3 μ4 => ∃ f5 g6, μ4 r1 = some (.inl (2, f5)) ∧ f5[0]? = some (.ref g6) ∧ (¬ some g6 = some (kd 2) → (wb_X6_extend_28 o kd post px μ4)) ∧ (some g6 = some (kd 2) → ((x2 < x1 → (∃ f11 g12, μ4 r1 = some (.inl (2, f11)) ∧ f11[6]? = some (.ref g12) ∧ (∃ f60, μ4 g12 = some (.inl (3, f60))) ∧ wp_X4_isFull g12 μ4 (fun r15 μ16 => (r15 = 0 → (∃ f18 g19, μ16 r1 = some (.inl (2, f18)) ∧ f18[6]? = some (.ref g19) ∧ (∃ f58, μ16 g19 = some (.inl (3, f58))) ∧ wp_X4_append g19 r3 μ16 (fun μ23 => ∃ f24 g25, μ23 o = some (.inl (5, f24)) ∧ f24[0]? = some (.ref g25) ∧ (∃ f56, μ23 g25 = some (.inl (3, f56))) ∧ wp_X4_measureAll g25 kd μ23 (fun r28 μ29 => (¬ r28 = 0 → (∃ f31 g32, μ29 r1 = some (.inl (2, f31)) ∧ f31[6]? = some (.ref g32) ∧ (∃ f38, μ29 g32 = some (.inl (3, f38))) ∧ wp_X4_size g32 μ29 (fun r35 μ36 => post r35 μ36))) ∧ (r28 = 0 → (∃ f39 g40, μ29 r1 = some (.inl (2, f39)) ∧ f39[6]? = some (.ref g40) ∧ (∃ f54, μ29 g40 = some (.inl (3, f54))) ∧ wp_X4_dropLast g40 μ29 (fun μ44 => ∃ f45 g46, μ44 o = some (.inl (5, f45)) ∧ f45[0]? = some (.ref g46) ∧ (∃ f52, μ44 g46 = some (.inl (3, f52))) ∧ wp_X4_measureAll g46 kd μ44 (fun r49 μ50 => px "java/lang/IllegalStateException" μ50)))))))) ∧ (¬ r15 = 0 → (px "java/lang/IllegalStateException" μ16))))) ∧ (¬ x2 < x1 → (wb_X6_extend_28 o kd post px μ4))))) px) px
set_option maxHeartbeats 4000000 in
set_option maxRecDepth 100000 in
theorem c_X6_extend (l : Launch) (G : gG) (A : Nat → Prop) (hl0 : l.stackTraces = false) (kd : Nat → Nat) (hkd : G.2.2 = kd) (o : Nat) (x1 : Int32) (x2 : Int32) (μ : Mm) (post : Int32 → Mm → Prop) (px : String → Mm → Prop) (h : wp_X6_extend o kd x1 x2 μ post px) : vx_Met l yX6_extend (.code yX6_extend cX6_extend 5 (some .int) :: wsA) (rmL (4) 3 18) (PcG G A μ [.ref o, .int x1, .int x2]) (QG G A (pI post)) (XG G A px) 3 18 A := by
  refine metx_J (loc := [(0, .ref o), (1, .int x1), (2, .int x2)]) (by decide +kernel) (Nat.le_of_ble_eq_true rfl) rfl ?_
  intro p e s m args below meth c X hout
  have X : Cx p l s m args meth c cX6_extend 5 (some .int) RX6 G A := X
  have hw := h
  unfold wp_X6_extend at hw
  refine j_aload_n X (pc' := 1) (kk := 0) (i := 0) 0 rfl rfl dX6_extend_0 rfl ?_
  refine j_iload_n X (pc' := 2) (kk := 1) (i := 1) 1 rfl rfl dX6_extend_1 rfl ?_
  obtain ⟨⟨f66, hm65⟩, hw1⟩ := hw
  refine jx_callVn (As := [.int x1]) (rest := []) X (pc' := 5) (cells' := 1) (slots' := 6) hout (c_X6_typeNumbered l G A hl0 o x1 μ _ _ hw1) (gk_X6_typeNumbered wt_2_121) hd_X6_typeNumbered (rmL_fit (k1 := 1) (k := 4) (by omega) (by decide)) hm65 rfl rfl rfl (Nat.le_of_ble_eq_true rfl) dX6_extend_2 rfl ⟨Nat.le_of_ble_eq_true rfl, Nat.le_of_ble_eq_true rfl⟩ rfl rfl (Nat.le_of_ble_eq_true rfl) (Nat.le_of_ble_eq_true rfl) (fun r1 μ2 hw2 => ?_)
  refine j_astore_n X (pc' := 6) (kk := 3) (i := 3) (loc' := [(3, .ref r1), (0, .ref o), (1, .int x1), (2, .int x2)]) dX6_extend_5 rfl rfl (by decide) rfl ?_
  refine j_aload_n X (pc' := 7) (kk := 0) (i := 0) 1 rfl rfl dX6_extend_6 rfl ?_
  refine j_iload_n X (pc' := 8) (kk := 2) (i := 2) 3 rfl rfl dX6_extend_7 rfl ?_
  obtain ⟨⟨f63, hm62⟩, hw3⟩ := hw2
  refine jx_callVn (As := [.int x2]) (rest := []) X (pc' := 11) (cells' := 2) (slots' := 12) hout (c_X6_typeNumbered l G A hl0 o x2 μ2 _ _ hw3) (gk_X6_typeNumbered wt_2_121) hd_X6_typeNumbered (rmL_fit (k1 := 1) (k := 4) (by omega) (by decide)) hm62 rfl rfl rfl (Nat.le_of_ble_eq_true rfl) dX6_extend_8 rfl ⟨Nat.le_of_ble_eq_true rfl, Nat.le_of_ble_eq_true rfl⟩ rfl rfl (Nat.le_of_ble_eq_true rfl) (Nat.le_of_ble_eq_true rfl) (fun r3 μ4 hw4 => ?_)
  refine j_astore X (pc' := 13) (i := 4) (loc' := [(4, .ref r3), (3, .ref r1), (0, .ref o), (1, .int x1), (2, .int x2)]) dX6_extend_11 rfl (by decide) rfl ?_
  refine j_aload_n X (pc' := 14) (kk := 3) (i := 3) 1 rfl rfl dX6_extend_13 rfl ?_
  obtain ⟨f5, g6, hm7, hv8, hw5⟩ := hw4
  refine j_getfN X (pc' := 17) hm7 0 hv8 rfl fw_TX3 (by decide) (List.mem_of_getElem? (i := 4) rfl) dX6_extend_14 rfl ?_
  refine jp_kind X (pc' := 20) hkd 2 (by decide) wt_2_160 dX6_extend_17 rfl ?_
  refine j_acmp_ne X (rx := some g6) (ry := some (kd 2)) (pc' := 23) (tgt := 28) dX6_extend_20 rfl (by decide) (fun c9 => ?_) (fun c9 => ?_)
  · have hw6 := hw5.1 c9
    refine j_loc [2] rfl ?_
    exact tb_X6_extend_28 X hout hl0 hkd  _ hw6
  · have hw7 := hw5.2 c9
    refine j_iload_n X (pc' := 24) (kk := 2) (i := 2) 4 rfl rfl dX6_extend_23 rfl ?_
    refine j_iload_n X (pc' := 25) (kk := 1) (i := 1) 3 rfl rfl dX6_extend_24 rfl ?_
    refine j_icmp_lt X (pc' := 28) (tgt := 38) dX6_extend_25 rfl (by decide) (fun c10 => ?_) (fun c10 => ?_)
    · have hw8 := hw7.1 c10
      refine j_aload_n X (pc' := 39) (kk := 3) (i := 3) 1 rfl rfl dX6_extend_38 rfl ?_
      obtain ⟨f11, g12, hm13, hv14, hw9⟩ := hw8
      refine j_getfN X (pc' := 42) hm13 6 hv14 rfl fw_TX3 (by decide) (List.mem_of_getElem? (i := 15) rfl) dX6_extend_39 rfl ?_
      obtain ⟨⟨f60, hm59⟩, hw10⟩ := hw9
      refine j_callVi (As := []) (rest := []) X (pc' := 45) (cells' := 2) (slots' := 12) (c_X4_isFull l G A g12 μ4 _ hw10) (gk_X4_isFull wt_2_50) hd_X4_isFull (rmL_fit (k1 := 0) (k := 4) (by omega) (by decide)) hm59 rfl rfl rfl (Nat.le_of_ble_eq_true rfl) dX6_extend_42 rfl ⟨Nat.le_of_ble_eq_true rfl, Nat.le_of_ble_eq_true rfl⟩ rfl rfl (fun r15 μ16 hw11 => ?_)
      refine j_if_eq X (pc' := 48) (tgt := 58) dX6_extend_45 rfl (by decide) (fun c17 => ?_) (fun c17 => ?_)
      · have hw12 := hw11.1 c17
        refine j_aload_n X (pc' := 59) (kk := 3) (i := 3) 1 rfl rfl dX6_extend_58 rfl ?_
        obtain ⟨f18, g19, hm20, hv21, hw13⟩ := hw12
        refine j_getfN X (pc' := 62) hm20 6 hv21 rfl fw_TX3 (by decide) (List.mem_of_getElem? (i := 15) rfl) dX6_extend_59 rfl ?_
        refine j_aload X (pc' := 64) (i := 4) 0 rfl dX6_extend_62 rfl ?_
        obtain ⟨⟨f58, hm57⟩, hw14⟩ := hw13
        refine j_callVv (As := [.ref r3]) (rest := []) X (pc' := 67) (cells' := 2) (slots' := 12) (c_X4_append l G A g19 r3 μ16 _ hw14) (gk_X4_append wt_2_107) hd_X4_append (rmL_fit (k1 := 0) (k := 4) (by omega) (by decide)) hm57 rfl rfl rfl (Nat.le_of_ble_eq_true rfl) dX6_extend_64 rfl ⟨Nat.le_of_ble_eq_true rfl, Nat.le_of_ble_eq_true rfl⟩ rfl rfl (fun μ23 hw15 => ?_)
        refine j_aload_n X (pc' := 68) (kk := 0) (i := 0) 2 rfl rfl dX6_extend_67 rfl ?_
        obtain ⟨f24, g25, hm26, hv27, hw16⟩ := hw15
        refine j_getf X (pc' := 71) hm26 0 hv27 rfl fw_TX6 (by decide) wt_1_98 dX6_extend_68 rfl ?_
        obtain ⟨⟨f56, hm55⟩, hw17⟩ := hw16
        refine j_callVi (As := []) (rest := []) X (pc' := 74) (cells' := 2) (slots' := 12) (c_X4_measureAll l G A kd hkd g25 μ23 _ hw17) (gk_X4_measureAll wt_2_163) hd_X4_measureAll (rmL_fit (k1 := 3) (k := 4) (by omega) (by decide)) hm55 rfl rfl rfl (Nat.le_of_ble_eq_true rfl) dX6_extend_71 rfl ⟨Nat.le_of_ble_eq_true rfl, Nat.le_of_ble_eq_true rfl⟩ rfl rfl (fun r28 μ29 hw18 => ?_)
        refine j_if_ne X (pc' := 77) (tgt := 102) dX6_extend_74 rfl (by decide) (fun c30 => ?_) (fun c30 => ?_)
        · have hw19 := hw18.1 c30
          refine j_aload_n X (pc' := 103) (kk := 3) (i := 3) 1 rfl rfl dX6_extend_102 rfl ?_
          obtain ⟨f31, g32, hm33, hv34, hw20⟩ := hw19
          refine j_getfN X (pc' := 106) hm33 6 hv34 rfl fw_TX3 (by decide) (List.mem_of_getElem? (i := 15) rfl) dX6_extend_103 rfl ?_
          obtain ⟨⟨f38, hm37⟩, hw21⟩ := hw20
          refine j_callVi (As := []) (rest := []) X (pc' := 109) (cells' := 2) (slots' := 12) (c_X4_size l G A g32 μ29 _ hw21) (gk_X4_size wt_1_132) hd_X4_size (rmL_fit (k1 := 0) (k := 4) (by omega) (by decide)) hm37 rfl rfl rfl (Nat.le_of_ble_eq_true rfl) dX6_extend_106 rfl ⟨Nat.le_of_ble_eq_true rfl, Nat.le_of_ble_eq_true rfl⟩ rfl rfl (fun r35 μ36 hw22 => ?_)
          exact j_x (j_iret X ⟨_, rfl, hw22⟩ (Nat.le_of_ble_eq_true rfl) (Nat.le_of_ble_eq_true rfl) dX6_extend_109)
        · have hw23 := hw18.2 c30
          refine j_aload_n X (pc' := 78) (kk := 3) (i := 3) 1 rfl rfl dX6_extend_77 rfl ?_
          obtain ⟨f39, g40, hm41, hv42, hw24⟩ := hw23
          refine j_getfN X (pc' := 81) hm41 6 hv42 rfl fw_TX3 (by decide) (List.mem_of_getElem? (i := 15) rfl) dX6_extend_78 rfl ?_
          obtain ⟨⟨f54, hm53⟩, hw25⟩ := hw24
          refine j_callVv (As := []) (rest := []) X (pc' := 84) (cells' := 2) (slots' := 12) (c_X4_dropLast l G A g40 μ29 _ hw25) (gk_X4_dropLast wt_2_169) hd_X4_dropLast (rmL_fit (k1 := 0) (k := 4) (by omega) (by decide)) hm53 rfl rfl rfl (Nat.le_of_ble_eq_true rfl) dX6_extend_81 rfl ⟨Nat.le_of_ble_eq_true rfl, Nat.le_of_ble_eq_true rfl⟩ rfl rfl (fun μ44 hw26 => ?_)
          refine j_aload_n X (pc' := 85) (kk := 0) (i := 0) 2 rfl rfl dX6_extend_84 rfl ?_
          obtain ⟨f45, g46, hm47, hv48, hw27⟩ := hw26
          refine j_getf X (pc' := 88) hm47 0 hv48 rfl fw_TX6 (by decide) wt_1_98 dX6_extend_85 rfl ?_
          obtain ⟨⟨f52, hm51⟩, hw28⟩ := hw27
          refine j_callVi (As := []) (rest := []) X (pc' := 91) (cells' := 2) (slots' := 12) (c_X4_measureAll l G A kd hkd g46 μ44 _ hw28) (gk_X4_measureAll wt_2_163) hd_X4_measureAll (rmL_fit (k1 := 3) (k := 4) (by omega) (by decide)) hm51 rfl rfl rfl (Nat.le_of_ble_eq_true rfl) dX6_extend_88 rfl ⟨Nat.le_of_ble_eq_true rfl, Nat.le_of_ble_eq_true rfl⟩ rfl rfl (fun r49 μ50 hw29 => ?_)
          refine j_pop X (pc' := 92) rfl dX6_extend_91 rfl ?_
          exact jx_throw X hout hl0 (List.mem_of_getElem? (i := 1) rfl) (List.mem_of_getElem? (i := 5) rfl) wt_2_91 wt_1_14 xg_1 xn_1 (by decide +kernel) xk_1 dX6_extend_92 dX6_extend_95 dX6_extend_96 dX6_extend_98 dX6_extend_101 (Nat.le_of_ble_eq_true rfl) (Nat.le_of_ble_eq_true rfl) (Nat.le_of_ble_eq_true rfl) (Nat.le_of_ble_eq_true rfl) (Nat.le_of_ble_eq_true rfl) (Nat.le_of_ble_eq_true rfl) hw29
      · have hw30 := hw11.2 c17
        exact jx_throw X hout hl0 (List.mem_of_getElem? (i := 1) rfl) (List.mem_of_getElem? (i := 4) rfl) wt_2_91 wt_1_14 xg_1 xn_1 (by decide +kernel) xk_1 dX6_extend_48 dX6_extend_51 dX6_extend_52 dX6_extend_54 dX6_extend_57 (Nat.le_of_ble_eq_true rfl) (Nat.le_of_ble_eq_true rfl) (Nat.le_of_ble_eq_true rfl) (Nat.le_of_ble_eq_true rfl) (Nat.le_of_ble_eq_true rfl) (Nat.le_of_ble_eq_true rfl) hw30
    · have hw31 := hw7.2 c10
      refine j_loc [2] rfl ?_
      exact tb_X6_extend_28 X hout hl0 hkd  _ hw31
/-! BitNotation.types()I -/
theorem dX6_types_0 : decode cX6_types 0 = .ok (.aload_n 0, 1) := by decide +kernel
theorem dX6_types_1 : decode cX6_types 1 = .ok (.getfield 14, 3) := by decide +kernel
theorem dX6_types_4 : decode cX6_types 4 = .ok (.invokevirtual 97, 3) := by decide +kernel
theorem dX6_types_7 : decode cX6_types 7 = .ok (.ireturn, 1) := by decide +kernel
def wp_X6_types (o : Nat) (μ : Mm) (post : Int32 → Mm → Prop) : Prop := ∃ f1 g2, μ o = some (.inl (5, f1)) ∧ f1[0]? = some (.ref g2) ∧ (∃ f8, μ g2 = some (.inl (3, f8))) ∧ wp_X4_size g2 μ (fun r5 μ6 => post r5 μ6)
set_option maxHeartbeats 4000000 in
set_option maxRecDepth 100000 in
theorem c_X6_types (l : Launch) (G : gG) (A : Nat → Prop) (o : Nat) (μ : Mm) (post : Int32 → Mm → Prop) (h : wp_X6_types o μ post) : Met l yX6_types (.code yX6_types cX6_types 1 (some .int) :: wsA) (rmL (1) 0 0) (PcG G A μ [.ref o]) (QG G A (pI post)) 0 0 A := by
  refine met_J (loc := [(0, .ref o)]) (by decide +kernel) (Nat.le_of_ble_eq_true rfl) rfl ?_
  intro p e s m args below meth c X hin
  have X : Cx p l s m args meth c cX6_types 1 (some .int) RX6 G A := X
  have hw := h
  unfold wp_X6_types at hw
  refine j_aload_n X (pc' := 1) (kk := 0) (i := 0) 0 rfl rfl dX6_types_0 rfl ?_
  obtain ⟨f1, g2, hm3, hv4, hw1⟩ := hw
  refine j_getf X (pc' := 4) hm3 0 hv4 rfl fw_TX6 (by decide) wt_1_98 dX6_types_1 rfl ?_
  obtain ⟨⟨f8, hm7⟩, hw2⟩ := hw1
  refine j_callVi (As := []) (rest := []) X (pc' := 7) (cells' := 0) (slots' := 0) (c_X4_size l G A g2 μ _ hw2) (gk_X4_size wt_1_132) hd_X4_size (rmL_fit (k1 := 0) (k := 1) (by omega) (by decide)) hm7 rfl rfl rfl (Nat.le_of_ble_eq_true rfl) dX6_types_4 rfl ⟨Nat.le_of_ble_eq_true rfl, Nat.le_of_ble_eq_true rfl⟩ rfl rfl (fun r5 μ6 hw3 => ?_)
  exact j_iret X ⟨_, rfl, hw3⟩ (Nat.le_of_ble_eq_true rfl) (Nat.le_of_ble_eq_true rfl) dX6_types_7
/-! BitNotation.leastBits(I)I -/
theorem dX6_leastBits_0 : decode cX6_leastBits 0 = .ok (.aload_n 0, 1) := by decide +kernel
theorem dX6_leastBits_1 : decode cX6_leastBits 1 = .ok (.iload_n 1, 1) := by decide +kernel
theorem dX6_leastBits_2 : decode cX6_leastBits 2 = .ok (.invokevirtual 75, 3) := by decide +kernel
theorem dX6_leastBits_5 : decode cX6_leastBits 5 = .ok (.getfield 128, 3) := by decide +kernel
theorem dX6_leastBits_8 : decode cX6_leastBits 8 = .ok (.ireturn, 1) := by decide +kernel
def wp_X6_leastBits (o : Nat) (x1 : Int32) (μ : Mm) (post : Int32 → Mm → Prop) (px : String → Mm → Prop) : Prop := (∃ f9, μ o = some (.inl (5, f9))) ∧ wp_X6_typeNumbered o x1 μ (fun r1 μ2 => ∃ f3 g4, μ2 r1 = some (.inl (2, f3)) ∧ f3[7]? = some (.int g4) ∧ post g4 μ2) px
set_option maxHeartbeats 4000000 in
set_option maxRecDepth 100000 in
theorem c_X6_leastBits (l : Launch) (G : gG) (A : Nat → Prop) (hl0 : l.stackTraces = false) (o : Nat) (x1 : Int32) (μ : Mm) (post : Int32 → Mm → Prop) (px : String → Mm → Prop) (h : wp_X6_leastBits o x1 μ post px) : vx_Met l yX6_leastBits (.code yX6_leastBits cX6_leastBits 2 (some .int) :: wsA) (rmL (2) 1 6) (PcG G A μ [.ref o, .int x1]) (QG G A (pI post)) (XG G A px) 1 6 A := by
  refine metx_J (loc := [(0, .ref o), (1, .int x1)]) (by decide +kernel) (Nat.le_of_ble_eq_true rfl) rfl ?_
  intro p e s m args below meth c X hout
  have X : Cx p l s m args meth c cX6_leastBits 2 (some .int) RX6 G A := X
  have hw := h
  unfold wp_X6_leastBits at hw
  refine j_aload_n X (pc' := 1) (kk := 0) (i := 0) 0 rfl rfl dX6_leastBits_0 rfl ?_
  refine j_iload_n X (pc' := 2) (kk := 1) (i := 1) 1 rfl rfl dX6_leastBits_1 rfl ?_
  obtain ⟨⟨f9, hm8⟩, hw1⟩ := hw
  refine jx_callVn (As := [.int x1]) (rest := []) X (pc' := 5) (cells' := 1) (slots' := 6) hout (c_X6_typeNumbered l G A hl0 o x1 μ _ _ hw1) (gk_X6_typeNumbered wt_2_121) hd_X6_typeNumbered (rmL_fit (k1 := 1) (k := 2) (by omega) (by decide)) hm8 rfl rfl rfl (Nat.le_of_ble_eq_true rfl) dX6_leastBits_2 rfl ⟨Nat.le_of_ble_eq_true rfl, Nat.le_of_ble_eq_true rfl⟩ rfl rfl (Nat.le_of_ble_eq_true rfl) (Nat.le_of_ble_eq_true rfl) (fun r1 μ2 hw2 => ?_)
  obtain ⟨f3, g4, hm5, hv6, hw3⟩ := hw2
  refine j_getfN X (pc' := 8) hm5 7 hv6 rfl fw_TX3 (by decide) (List.mem_of_getElem? (i := 16) rfl) dX6_leastBits_5 rfl ?_
  exact j_x (j_iret X ⟨_, rfl, hw3⟩ (Nat.le_of_ble_eq_true rfl) (Nat.le_of_ble_eq_true rfl) dX6_leastBits_8)
/-! BitNotation.mostBits(I)I -/
theorem dX6_mostBits_0 : decode cX6_mostBits 0 = .ok (.aload_n 0, 1) := by decide +kernel
theorem dX6_mostBits_1 : decode cX6_mostBits 1 = .ok (.iload_n 1, 1) := by decide +kernel
theorem dX6_mostBits_2 : decode cX6_mostBits 2 = .ok (.invokevirtual 75, 3) := by decide +kernel
theorem dX6_mostBits_5 : decode cX6_mostBits 5 = .ok (.getfield 131, 3) := by decide +kernel
theorem dX6_mostBits_8 : decode cX6_mostBits 8 = .ok (.ireturn, 1) := by decide +kernel
def wp_X6_mostBits (o : Nat) (x1 : Int32) (μ : Mm) (post : Int32 → Mm → Prop) (px : String → Mm → Prop) : Prop := (∃ f9, μ o = some (.inl (5, f9))) ∧ wp_X6_typeNumbered o x1 μ (fun r1 μ2 => ∃ f3 g4, μ2 r1 = some (.inl (2, f3)) ∧ f3[8]? = some (.int g4) ∧ post g4 μ2) px
set_option maxHeartbeats 4000000 in
set_option maxRecDepth 100000 in
theorem c_X6_mostBits (l : Launch) (G : gG) (A : Nat → Prop) (hl0 : l.stackTraces = false) (o : Nat) (x1 : Int32) (μ : Mm) (post : Int32 → Mm → Prop) (px : String → Mm → Prop) (h : wp_X6_mostBits o x1 μ post px) : vx_Met l yX6_mostBits (.code yX6_mostBits cX6_mostBits 2 (some .int) :: wsA) (rmL (2) 1 6) (PcG G A μ [.ref o, .int x1]) (QG G A (pI post)) (XG G A px) 1 6 A := by
  refine metx_J (loc := [(0, .ref o), (1, .int x1)]) (by decide +kernel) (Nat.le_of_ble_eq_true rfl) rfl ?_
  intro p e s m args below meth c X hout
  have X : Cx p l s m args meth c cX6_mostBits 2 (some .int) RX6 G A := X
  have hw := h
  unfold wp_X6_mostBits at hw
  refine j_aload_n X (pc' := 1) (kk := 0) (i := 0) 0 rfl rfl dX6_mostBits_0 rfl ?_
  refine j_iload_n X (pc' := 2) (kk := 1) (i := 1) 1 rfl rfl dX6_mostBits_1 rfl ?_
  obtain ⟨⟨f9, hm8⟩, hw1⟩ := hw
  refine jx_callVn (As := [.int x1]) (rest := []) X (pc' := 5) (cells' := 1) (slots' := 6) hout (c_X6_typeNumbered l G A hl0 o x1 μ _ _ hw1) (gk_X6_typeNumbered wt_2_121) hd_X6_typeNumbered (rmL_fit (k1 := 1) (k := 2) (by omega) (by decide)) hm8 rfl rfl rfl (Nat.le_of_ble_eq_true rfl) dX6_mostBits_2 rfl ⟨Nat.le_of_ble_eq_true rfl, Nat.le_of_ble_eq_true rfl⟩ rfl rfl (Nat.le_of_ble_eq_true rfl) (Nat.le_of_ble_eq_true rfl) (fun r1 μ2 hw2 => ?_)
  obtain ⟨f3, g4, hm5, hv6, hw3⟩ := hw2
  refine j_getfN X (pc' := 8) hm5 8 hv6 rfl fw_TX3 (by decide) (List.mem_of_getElem? (i := 17) rfl) dX6_mostBits_5 rfl ?_
  exact j_x (j_iret X ⟨_, rfl, hw3⟩ (Nat.le_of_ble_eq_true rfl) (Nat.le_of_ble_eq_true rfl) dX6_mostBits_8)
/-! BitNotation.tell(I)I -/
theorem dX6_tell_0 : decode cX6_tell 0 = .ok (.iload_n 1, 1) := by decide +kernel
theorem dX6_tell_1 : decode cX6_tell 1 = .ok (.sipush (-1000), 3) := by decide +kernel
theorem dX6_tell_4 : decode cX6_tell 4 = .ok (.sipush 1000, 3) := by decide +kernel
theorem dX6_tell_7 : decode cX6_tell 7 = .ok (.invokestatic 49, 3) := by decide +kernel
theorem dX6_tell_10 : decode cX6_tell 10 = .ok (.ifCond .eq 13, 3) := by decide +kernel
theorem dX6_tell_13 : decode cX6_tell 13 = .ok (.new 53, 3) := by decide +kernel
theorem dX6_tell_16 : decode cX6_tell 16 = .ok (.dup, 1) := by decide +kernel
theorem dX6_tell_17 : decode cX6_tell 17 = .ok (.ldc 134, 2) := by decide +kernel
theorem dX6_tell_19 : decode cX6_tell 19 = .ok (.invokespecial 57, 3) := by decide +kernel
theorem dX6_tell_22 : decode cX6_tell 22 = .ok (.athrow, 1) := by decide +kernel
theorem dX6_tell_23 : decode cX6_tell 23 = .ok (.aload_n 0, 1) := by decide +kernel
theorem dX6_tell_24 : decode cX6_tell 24 = .ok (.getfield 21, 3) := by decide +kernel
theorem dX6_tell_27 : decode cX6_tell 27 = .ok (.invokevirtual 136, 3) := by decide +kernel
theorem dX6_tell_30 : decode cX6_tell 30 = .ok (.ifCond .eq 13, 3) := by decide +kernel
theorem dX6_tell_33 : decode cX6_tell 33 = .ok (.new 92, 3) := by decide +kernel
theorem dX6_tell_36 : decode cX6_tell 36 = .ok (.dup, 1) := by decide +kernel
theorem dX6_tell_37 : decode cX6_tell 37 = .ok (.ldc 137, 2) := by decide +kernel
theorem dX6_tell_39 : decode cX6_tell 39 = .ok (.invokespecial 96, 3) := by decide +kernel
theorem dX6_tell_42 : decode cX6_tell 42 = .ok (.athrow, 1) := by decide +kernel
theorem dX6_tell_43 : decode cX6_tell 43 = .ok (.aload_n 0, 1) := by decide +kernel
theorem dX6_tell_44 : decode cX6_tell 44 = .ok (.getfield 21, 3) := by decide +kernel
theorem dX6_tell_47 : decode cX6_tell 47 = .ok (.iload_n 1, 1) := by decide +kernel
theorem dX6_tell_48 : decode cX6_tell 48 = .ok (.invokevirtual 139, 3) := by decide +kernel
theorem dX6_tell_51 : decode cX6_tell 51 = .ok (.aload_n 0, 1) := by decide +kernel
theorem dX6_tell_52 : decode cX6_tell 52 = .ok (.getfield 21, 3) := by decide +kernel
theorem dX6_tell_55 : decode cX6_tell 55 = .ok (.invokevirtual 141, 3) := by decide +kernel
theorem dX6_tell_58 : decode cX6_tell 58 = .ok (.ireturn, 1) := by decide +kernel
def wp_X6_tell (o : Nat) (x1 : Int32) (μ : Mm) (post : Int32 → Mm → Prop) (px : String → Mm → Prop) : Prop := wp_X6_isOutside x1 (-1000 : Int32) (1000 : Int32) (fun r1 => (r1 = 0 → (∃ f3 g4, μ o = some (.inl (5, f3)) ∧ f3[1]? = some (.ref g4) ∧ (∃ f27, μ g4 = some (.inl (1, f27))) ∧ wp_X2_isFull g4 μ (fun r7 μ8 => (r7 = 0 → (∃ f10 g11, μ8 o = some (.inl (5, f10)) ∧ f10[1]? = some (.ref g11) ∧ (∃ f25, μ8 g11 = some (.inl (1, f25))) ∧ wp_X2_append g11 x1 μ8 (fun μ15 => ∃ f16 g17, μ15 o = some (.inl (5, f16)) ∧ f16[1]? = some (.ref g17) ∧ (∃ f23, μ15 g17 = some (.inl (1, f23))) ∧ wp_X2_size g17 μ15 (fun r20 μ21 => post r20 μ21)))) ∧ (¬ r7 = 0 → (px "java/lang/IllegalStateException" μ8))))) ∧ (¬ r1 = 0 → (px "java/lang/IllegalArgumentException" μ)))
set_option maxHeartbeats 4000000 in
set_option maxRecDepth 100000 in
theorem c_X6_tell (l : Launch) (G : gG) (A : Nat → Prop) (hl0 : l.stackTraces = false) (o : Nat) (x1 : Int32) (μ : Mm) (post : Int32 → Mm → Prop) (px : String → Mm → Prop) (h : wp_X6_tell o x1 μ post px) : vx_Met l yX6_tell (.code yX6_tell cX6_tell 2 (some .int) :: wsA) (rmL (1) 1 6) (PcG G A μ [.ref o, .int x1]) (QG G A (pI post)) (XG G A px) 1 6 A := by
  refine metx_J (loc := [(0, .ref o), (1, .int x1)]) (by decide +kernel) (Nat.le_of_ble_eq_true rfl) rfl ?_
  intro p e s m args below meth c X hout
  have X : Cx p l s m args meth c cX6_tell 2 (some .int) RX6 G A := X
  have hw := h
  unfold wp_X6_tell at hw
  refine j_iload_n X (pc' := 1) (kk := 1) (i := 1) 1 rfl rfl dX6_tell_0 rfl ?_
  refine j_sipush X (pc' := 4) (v := (-1000)) (by decide) dX6_tell_1 rfl ?_
  refine j_sipush X (pc' := 7) (v := 1000) (by decide) dX6_tell_4 rfl ?_
  refine j_callSp (As := [.int x1, .int (-1000 : Int32), .int (1000 : Int32)]) (rest := []) X (pc' := 10) (cells' := 0) (slots' := 0) (c_X6_isOutside l G A μ x1 (-1000 : Int32) (1000 : Int32) _ hw) (gk_X6_isOutside wt_1_153) hd_X6_isOutside (rmL_fit (k1 := 0) (k := 1) (by omega) (by decide)) rfl rfl (Nat.le_of_ble_eq_true rfl) dX6_tell_7 rfl ⟨Nat.le_of_ble_eq_true rfl, Nat.le_of_ble_eq_true rfl⟩ rfl rfl (fun r1 hw1 => ?_)
  refine j_if_eq X (pc' := 13) (tgt := 23) dX6_tell_10 rfl (by decide) (fun c2 => ?_) (fun c2 => ?_)
  · have hw2 := hw1.1 c2
    refine j_aload_n X (pc' := 24) (kk := 0) (i := 0) 0 rfl rfl dX6_tell_23 rfl ?_
    obtain ⟨f3, g4, hm5, hv6, hw3⟩ := hw2
    refine j_getf X (pc' := 27) hm5 1 hv6 rfl fw_TX6 (by decide) wt_1_99 dX6_tell_24 rfl ?_
    obtain ⟨⟨f27, hm26⟩, hw4⟩ := hw3
    refine j_callVi (As := []) (rest := []) X (pc' := 30) (cells' := 0) (slots' := 0) (c_X2_isFull l G A g4 μ _ hw4) (gk_X2_isFull wt_2_196) hd_X2_isFull (rmL_fit (k1 := 0) (k := 1) (by omega) (by decide)) hm26 rfl rfl rfl (Nat.le_of_ble_eq_true rfl) dX6_tell_27 rfl ⟨Nat.le_of_ble_eq_true rfl, Nat.le_of_ble_eq_true rfl⟩ rfl rfl (fun r7 μ8 hw5 => ?_)
    refine j_if_eq X (pc' := 33) (tgt := 43) dX6_tell_30 rfl (by decide) (fun c9 => ?_) (fun c9 => ?_)
    · have hw6 := hw5.1 c9
      refine j_aload_n X (pc' := 44) (kk := 0) (i := 0) 0 rfl rfl dX6_tell_43 rfl ?_
      obtain ⟨f10, g11, hm12, hv13, hw7⟩ := hw6
      refine j_getf X (pc' := 47) hm12 1 hv13 rfl fw_TX6 (by decide) wt_1_99 dX6_tell_44 rfl ?_
      refine j_iload_n X (pc' := 48) (kk := 1) (i := 1) 1 rfl rfl dX6_tell_47 rfl ?_
      obtain ⟨⟨f25, hm24⟩, hw8⟩ := hw7
      refine j_callVv (As := [.int x1]) (rest := []) X (pc' := 51) (cells' := 0) (slots' := 0) (c_X2_append l G A g11 x1 μ8 _ hw8) (gk_X2_append wt_2_201) hd_X2_append (rmL_fit (k1 := 0) (k := 1) (by omega) (by decide)) hm24 rfl rfl rfl (Nat.le_of_ble_eq_true rfl) dX6_tell_48 rfl ⟨Nat.le_of_ble_eq_true rfl, Nat.le_of_ble_eq_true rfl⟩ rfl rfl (fun μ15 hw9 => ?_)
      refine j_aload_n X (pc' := 52) (kk := 0) (i := 0) 0 rfl rfl dX6_tell_51 rfl ?_
      obtain ⟨f16, g17, hm18, hv19, hw10⟩ := hw9
      refine j_getf X (pc' := 55) hm18 1 hv19 rfl fw_TX6 (by decide) wt_1_99 dX6_tell_52 rfl ?_
      obtain ⟨⟨f23, hm22⟩, hw11⟩ := hw10
      refine j_callVi (As := []) (rest := []) X (pc' := 58) (cells' := 0) (slots' := 0) (c_X2_size l G A g17 μ15 _ hw11) (gk_X2_size wt_1_140) hd_X2_size (rmL_fit (k1 := 0) (k := 1) (by omega) (by decide)) hm22 rfl rfl rfl (Nat.le_of_ble_eq_true rfl) dX6_tell_55 rfl ⟨Nat.le_of_ble_eq_true rfl, Nat.le_of_ble_eq_true rfl⟩ rfl rfl (fun r20 μ21 hw12 => ?_)
      exact j_x (j_iret X ⟨_, rfl, hw12⟩ (Nat.le_of_ble_eq_true rfl) (Nat.le_of_ble_eq_true rfl) dX6_tell_58)
    · have hw13 := hw5.2 c9
      exact jx_throw X hout hl0 (List.mem_of_getElem? (i := 1) rfl) (List.mem_of_getElem? (i := 7) rfl) wt_2_91 wt_1_14 xg_1 xn_1 (by decide +kernel) xk_1 dX6_tell_33 dX6_tell_36 dX6_tell_37 dX6_tell_39 dX6_tell_42 (Nat.le_of_ble_eq_true rfl) (Nat.le_of_ble_eq_true rfl) (Nat.le_of_ble_eq_true rfl) (Nat.le_of_ble_eq_true rfl) (Nat.le_of_ble_eq_true rfl) (Nat.le_of_ble_eq_true rfl) hw13
  · have hw14 := hw1.2 c2
    exact jx_throw X hout hl0 (List.mem_of_getElem? (i := 0) rfl) (List.mem_of_getElem? (i := 6) rfl) wt_1_156 wt_1_10 xg_0 xn_0 (by decide +kernel) xk_0 dX6_tell_13 dX6_tell_16 dX6_tell_17 dX6_tell_19 dX6_tell_22 (Nat.le_of_ble_eq_true rfl) (Nat.le_of_ble_eq_true rfl) (Nat.le_of_ble_eq_true rfl) (Nat.le_of_ble_eq_true rfl) (Nat.le_of_ble_eq_true rfl) (Nat.le_of_ble_eq_true rfl) hw14
/-! BitNotation.forget()I -/
theorem dX6_forget_0 : decode cX6_forget 0 = .ok (.aload_n 0, 1) := by decide +kernel
theorem dX6_forget_1 : decode cX6_forget 1 = .ok (.getfield 21, 3) := by decide +kernel
theorem dX6_forget_4 : decode cX6_forget 4 = .ok (.invokevirtual 141, 3) := by decide +kernel
theorem dX6_forget_7 : decode cX6_forget 7 = .ok (.istore_n 1, 1) := by decide +kernel
theorem dX6_forget_8 : decode cX6_forget 8 = .ok (.aload_n 0, 1) := by decide +kernel
theorem dX6_forget_9 : decode cX6_forget 9 = .ok (.getfield 21, 3) := by decide +kernel
theorem dX6_forget_12 : decode cX6_forget 12 = .ok (.iconst 0, 1) := by decide +kernel
theorem dX6_forget_13 : decode cX6_forget 13 = .ok (.invokevirtual 142, 3) := by decide +kernel
theorem dX6_forget_16 : decode cX6_forget 16 = .ok (.iload_n 1, 1) := by decide +kernel
theorem dX6_forget_17 : decode cX6_forget 17 = .ok (.ireturn, 1) := by decide +kernel
def wp_X6_forget (o : Nat) (μ : Mm) (post : Int32 → Mm → Prop) : Prop := ∃ f1 g2, μ o = some (.inl (5, f1)) ∧ f1[1]? = some (.ref g2) ∧ (∃ f16, μ g2 = some (.inl (1, f16))) ∧ wp_X2_size g2 μ (fun r5 μ6 => ∃ f7 g8, μ6 o = some (.inl (5, f7)) ∧ f7[1]? = some (.ref g8) ∧ (∃ f14, μ6 g8 = some (.inl (1, f14))) ∧ wp_X2_keepFirst g8 (0 : Int32) μ6 (fun μ12 => post r5 μ12))
set_option maxHeartbeats 4000000 in
set_option maxRecDepth 100000 in
theorem c_X6_forget (l : Launch) (G : gG) (A : Nat → Prop) (o : Nat) (μ : Mm) (post : Int32 → Mm → Prop) (h : wp_X6_forget o μ post) : Met l yX6_forget (.code yX6_forget cX6_forget 2 (some .int) :: wsA) (rmL (1) 0 0) (PcG G A μ [.ref o]) (QG G A (pI post)) 0 0 A := by
  refine met_J (loc := [(0, .ref o)]) (by decide +kernel) (Nat.le_of_ble_eq_true rfl) rfl ?_
  intro p e s m args below meth c X hin
  have X : Cx p l s m args meth c cX6_forget 2 (some .int) RX6 G A := X
  have hw := h
  unfold wp_X6_forget at hw
  refine j_aload_n X (pc' := 1) (kk := 0) (i := 0) 0 rfl rfl dX6_forget_0 rfl ?_
  obtain ⟨f1, g2, hm3, hv4, hw1⟩ := hw
  refine j_getf X (pc' := 4) hm3 1 hv4 rfl fw_TX6 (by decide) wt_1_99 dX6_forget_1 rfl ?_
  obtain ⟨⟨f16, hm15⟩, hw2⟩ := hw1
  refine j_callVi (As := []) (rest := []) X (pc' := 7) (cells' := 0) (slots' := 0) (c_X2_size l G A g2 μ _ hw2) (gk_X2_size wt_1_140) hd_X2_size (rmL_fit (k1 := 0) (k := 1) (by omega) (by decide)) hm15 rfl rfl rfl (Nat.le_of_ble_eq_true rfl) dX6_forget_4 rfl ⟨Nat.le_of_ble_eq_true rfl, Nat.le_of_ble_eq_true rfl⟩ rfl rfl (fun r5 μ6 hw3 => ?_)
  refine j_istore_n X (pc' := 8) (kk := 1) (i := 1) (loc' := [(1, .int r5), (0, .ref o)]) dX6_forget_7 rfl rfl (by decide) rfl ?_
  refine j_aload_n X (pc' := 9) (kk := 0) (i := 0) 1 rfl rfl dX6_forget_8 rfl ?_
  obtain ⟨f7, g8, hm9, hv10, hw4⟩ := hw3
  refine j_getf X (pc' := 12) hm9 1 hv10 rfl fw_TX6 (by decide) wt_1_99 dX6_forget_9 rfl ?_
  refine j_iconst X (pc' := 13) (v := 0) (by decide) dX6_forget_12 rfl ?_
  obtain ⟨⟨f14, hm13⟩, hw5⟩ := hw4
  refine j_callVv (As := [.int (0 : Int32)]) (rest := []) X (pc' := 16) (cells' := 0) (slots' := 0) (c_X2_keepFirst l G A g8 (0 : Int32) μ6 _ hw5) (gk_X2_keepFirst wt_3_80) hd_X2_keepFirst (rmL_fit (k1 := 0) (k := 1) (by omega) (by decide)) hm13 rfl rfl rfl (Nat.le_of_ble_eq_true rfl) dX6_forget_13 rfl ⟨Nat.le_of_ble_eq_true rfl, Nat.le_of_ble_eq_true rfl⟩ rfl rfl (fun μ12 hw6 => ?_)
  refine j_iload_n X (pc' := 17) (kk := 1) (i := 1) 0 rfl rfl dX6_forget_16 rfl ?_
  exact j_iret X ⟨_, rfl, hw6⟩ (Nat.le_of_ble_eq_true rfl) (Nat.le_of_ble_eq_true rfl) dX6_forget_17
/-! BitNotation.length()I -/
theorem dX6_length_0 : decode cX6_length 0 = .ok (.aload_n 0, 1) := by decide +kernel
theorem dX6_length_1 : decode cX6_length 1 = .ok (.getfield 21, 3) := by decide +kernel
theorem dX6_length_4 : decode cX6_length 4 = .ok (.invokevirtual 141, 3) := by decide +kernel
theorem dX6_length_7 : decode cX6_length 7 = .ok (.ireturn, 1) := by decide +kernel
def wp_X6_length (o : Nat) (μ : Mm) (post : Int32 → Mm → Prop) : Prop := ∃ f1 g2, μ o = some (.inl (5, f1)) ∧ f1[1]? = some (.ref g2) ∧ (∃ f8, μ g2 = some (.inl (1, f8))) ∧ wp_X2_size g2 μ (fun r5 μ6 => post r5 μ6)
set_option maxHeartbeats 4000000 in
set_option maxRecDepth 100000 in
theorem c_X6_length (l : Launch) (G : gG) (A : Nat → Prop) (o : Nat) (μ : Mm) (post : Int32 → Mm → Prop) (h : wp_X6_length o μ post) : Met l yX6_length (.code yX6_length cX6_length 1 (some .int) :: wsA) (rmL (1) 0 0) (PcG G A μ [.ref o]) (QG G A (pI post)) 0 0 A := by
  refine met_J (loc := [(0, .ref o)]) (by decide +kernel) (Nat.le_of_ble_eq_true rfl) rfl ?_
  intro p e s m args below meth c X hin
  have X : Cx p l s m args meth c cX6_length 1 (some .int) RX6 G A := X
  have hw := h
  unfold wp_X6_length at hw
  refine j_aload_n X (pc' := 1) (kk := 0) (i := 0) 0 rfl rfl dX6_length_0 rfl ?_
  obtain ⟨f1, g2, hm3, hv4, hw1⟩ := hw
  refine j_getf X (pc' := 4) hm3 1 hv4 rfl fw_TX6 (by decide) wt_1_99 dX6_length_1 rfl ?_
  obtain ⟨⟨f8, hm7⟩, hw2⟩ := hw1
  refine j_callVi (As := []) (rest := []) X (pc' := 7) (cells' := 0) (slots' := 0) (c_X2_size l G A g2 μ _ hw2) (gk_X2_size wt_1_140) hd_X2_size (rmL_fit (k1 := 0) (k := 1) (by omega) (by decide)) hm7 rfl rfl rfl (Nat.le_of_ble_eq_true rfl) dX6_length_4 rfl ⟨Nat.le_of_ble_eq_true rfl, Nat.le_of_ble_eq_true rfl⟩ rfl rfl (fun r5 μ6 hw3 => ?_)
  exact j_iret X ⟨_, rfl, hw3⟩ (Nat.le_of_ble_eq_true rfl) (Nat.le_of_ble_eq_true rfl) dX6_length_7
/-! BitNotation.told(I)I -/
theorem dX6_told_0 : decode cX6_told 0 = .ok (.aload_n 0, 1) := by decide +kernel
theorem dX6_told_1 : decode cX6_told 1 = .ok (.getfield 21, 3) := by decide +kernel
theorem dX6_told_4 : decode cX6_told 4 = .ok (.iload_n 1, 1) := by decide +kernel
theorem dX6_told_5 : decode cX6_told 5 = .ok (.invokevirtual 145, 3) := by decide +kernel
theorem dX6_told_8 : decode cX6_told 8 = .ok (.ifCond .ne 13, 3) := by decide +kernel
theorem dX6_told_11 : decode cX6_told 11 = .ok (.new 149, 3) := by decide +kernel
theorem dX6_told_14 : decode cX6_told 14 = .ok (.dup, 1) := by decide +kernel
theorem dX6_told_15 : decode cX6_told 15 = .ok (.ldc 151, 2) := by decide +kernel
theorem dX6_told_17 : decode cX6_told 17 = .ok (.invokespecial 153, 3) := by decide +kernel
theorem dX6_told_20 : decode cX6_told 20 = .ok (.athrow, 1) := by decide +kernel
theorem dX6_told_21 : decode cX6_told 21 = .ok (.aload_n 0, 1) := by decide +kernel
theorem dX6_told_22 : decode cX6_told 22 = .ok (.getfield 21, 3) := by decide +kernel
theorem dX6_told_25 : decode cX6_told 25 = .ok (.iload_n 1, 1) := by decide +kernel
theorem dX6_told_26 : decode cX6_told 26 = .ok (.invokevirtual 154, 3) := by decide +kernel
theorem dX6_told_29 : decode cX6_told 29 = .ok (.ireturn, 1) := by decide +kernel
def wp_X6_told (o : Nat) (x1 : Int32) (μ : Mm) (post : Int32 → Mm → Prop) (px : String → Mm → Prop) : Prop := ∃ f1 g2, μ o = some (.inl (5, f1)) ∧ f1[1]? = some (.ref g2) ∧ (∃ f17, μ g2 = some (.inl (1, f17))) ∧ wp_X2_has g2 x1 μ (fun r5 μ6 => (¬ r5 = 0 → (∃ f8 g9, μ6 o = some (.inl (5, f8)) ∧ f8[1]? = some (.ref g9) ∧ (∃ f15, μ6 g9 = some (.inl (1, f15))) ∧ wp_X2_at g9 x1 μ6 (fun r12 μ13 => post r12 μ13))) ∧ (r5 = 0 → (px "java/lang/IndexOutOfBoundsException" μ6)))
set_option maxHeartbeats 4000000 in
set_option maxRecDepth 100000 in
theorem c_X6_told (l : Launch) (G : gG) (A : Nat → Prop) (hl0 : l.stackTraces = false) (o : Nat) (x1 : Int32) (μ : Mm) (post : Int32 → Mm → Prop) (px : String → Mm → Prop) (h : wp_X6_told o x1 μ post px) : vx_Met l yX6_told (.code yX6_told cX6_told 2 (some .int) :: wsA) (rmL (1) 1 6) (PcG G A μ [.ref o, .int x1]) (QG G A (pI post)) (XG G A px) 1 6 A := by
  refine metx_J (loc := [(0, .ref o), (1, .int x1)]) (by decide +kernel) (Nat.le_of_ble_eq_true rfl) rfl ?_
  intro p e s m args below meth c X hout
  have X : Cx p l s m args meth c cX6_told 2 (some .int) RX6 G A := X
  have hw := h
  unfold wp_X6_told at hw
  refine j_aload_n X (pc' := 1) (kk := 0) (i := 0) 0 rfl rfl dX6_told_0 rfl ?_
  obtain ⟨f1, g2, hm3, hv4, hw1⟩ := hw
  refine j_getf X (pc' := 4) hm3 1 hv4 rfl fw_TX6 (by decide) wt_1_99 dX6_told_1 rfl ?_
  refine j_iload_n X (pc' := 5) (kk := 1) (i := 1) 1 rfl rfl dX6_told_4 rfl ?_
  obtain ⟨⟨f17, hm16⟩, hw2⟩ := hw1
  refine j_callVi (As := [.int x1]) (rest := []) X (pc' := 8) (cells' := 0) (slots' := 0) (c_X2_has l G A g2 x1 μ _ hw2) (gk_X2_has wt_2_212) hd_X2_has (rmL_fit (k1 := 0) (k := 1) (by omega) (by decide)) hm16 rfl rfl rfl (Nat.le_of_ble_eq_true rfl) dX6_told_5 rfl ⟨Nat.le_of_ble_eq_true rfl, Nat.le_of_ble_eq_true rfl⟩ rfl rfl (fun r5 μ6 hw3 => ?_)
  refine j_if_ne X (pc' := 11) (tgt := 21) dX6_told_8 rfl (by decide) (fun c7 => ?_) (fun c7 => ?_)
  · have hw4 := hw3.1 c7
    refine j_aload_n X (pc' := 22) (kk := 0) (i := 0) 0 rfl rfl dX6_told_21 rfl ?_
    obtain ⟨f8, g9, hm10, hv11, hw5⟩ := hw4
    refine j_getf X (pc' := 25) hm10 1 hv11 rfl fw_TX6 (by decide) wt_1_99 dX6_told_22 rfl ?_
    refine j_iload_n X (pc' := 26) (kk := 1) (i := 1) 1 rfl rfl dX6_told_25 rfl ?_
    obtain ⟨⟨f15, hm14⟩, hw6⟩ := hw5
    refine j_callVi (As := [.int x1]) (rest := []) X (pc' := 29) (cells' := 0) (slots' := 0) (c_X2_at l G A g9 x1 μ6 _ hw6) (gk_X2_at wt_2_217) hd_X2_at (rmL_fit (k1 := 0) (k := 1) (by omega) (by decide)) hm14 rfl rfl rfl (Nat.le_of_ble_eq_true rfl) dX6_told_26 rfl ⟨Nat.le_of_ble_eq_true rfl, Nat.le_of_ble_eq_true rfl⟩ rfl rfl (fun r12 μ13 hw7 => ?_)
    exact j_x (j_iret X ⟨_, rfl, hw7⟩ (Nat.le_of_ble_eq_true rfl) (Nat.le_of_ble_eq_true rfl) dX6_told_29)
  · have hw8 := hw3.2 c7
    exact jx_throw X hout hl0 (List.mem_of_getElem? (i := 2) rfl) (List.mem_of_getElem? (i := 8) rfl) wt_2_126 wt_1_15 xg_2 xn_2 (by decide +kernel) xk_2 dX6_told_11 dX6_told_14 dX6_told_15 dX6_told_17 dX6_told_20 (Nat.le_of_ble_eq_true rfl) (Nat.le_of_ble_eq_true rfl) (Nat.le_of_ble_eq_true rfl) (Nat.le_of_ble_eq_true rfl) (Nat.le_of_ble_eq_true rfl) (Nat.le_of_ble_eq_true rfl) hw8
/-! BitNotation.wrongAt(I)I -/
theorem dX6_wrongAt_0 : decode cX6_wrongAt 0 = .ok (.aload_n 0, 1) := by decide +kernel
theorem dX6_wrongAt_1 : decode cX6_wrongAt 1 = .ok (.getfield 31, 3) := by decide +kernel
theorem dX6_wrongAt_4 : decode cX6_wrongAt 4 = .ok (.aload_n 0, 1) := by decide +kernel
theorem dX6_wrongAt_5 : decode cX6_wrongAt 5 = .ok (.iload_n 1, 1) := by decide +kernel
theorem dX6_wrongAt_6 : decode cX6_wrongAt 6 = .ok (.invokevirtual 75, 3) := by decide +kernel
theorem dX6_wrongAt_9 : decode cX6_wrongAt 9 = .ok (.aload_n 0, 1) := by decide +kernel
theorem dX6_wrongAt_10 : decode cX6_wrongAt 10 = .ok (.getfield 21, 3) := by decide +kernel
theorem dX6_wrongAt_13 : decode cX6_wrongAt 13 = .ok (.invokevirtual 158, 3) := by decide +kernel
theorem dX6_wrongAt_16 : decode cX6_wrongAt 16 = .ok (.ireturn, 1) := by decide +kernel
def wp_X6_wrongAt (o : Nat) (kd : Nat → Nat) (x1 : Int32) (μ : Mm) (post : Int32 → Mm → Prop) (px : String → Mm → Prop) : Prop := ∃ f1 g2, μ o = some (.inl (5, f1)) ∧ f1[3]? = some (.ref g2) ∧ (∃ f17, μ o = some (.inl (5, f17))) ∧ wp_X6_typeNumbered o x1 μ (fun r5 μ6 => ∃ f7 g8, μ6 o = some (.inl (5, f7)) ∧ f7[1]? = some (.ref g8) ∧ (∃ f14, μ6 g2 = some (.inl (4, f14))) ∧ wp_X5_walk g2 kd r5 g8 μ6 (fun r11 μ12 => post r11 μ12)) px
set_option maxHeartbeats 4000000 in
set_option maxRecDepth 100000 in
theorem c_X6_wrongAt (l : Launch) (G : gG) (A : Nat → Prop) (hl0 : l.stackTraces = false) (kd : Nat → Nat) (hkd : G.2.2 = kd) (o : Nat) (x1 : Int32) (μ : Mm) (post : Int32 → Mm → Prop) (px : String → Mm → Prop) (h : wp_X6_wrongAt o kd x1 μ post px) : vx_Met l yX6_wrongAt (.code yX6_wrongAt cX6_wrongAt 2 (some .int) :: wsA) (rmL (76) 1 6) (PcG G A μ [.ref o, .int x1]) (QG G A (pI post)) (XG G A px) 1 6 A := by
  refine metx_J (loc := [(0, .ref o), (1, .int x1)]) (by decide +kernel) (Nat.le_of_ble_eq_true rfl) rfl ?_
  intro p e s m args below meth c X hout
  have X : Cx p l s m args meth c cX6_wrongAt 2 (some .int) RX6 G A := X
  have hw := h
  unfold wp_X6_wrongAt at hw
  refine j_aload_n X (pc' := 1) (kk := 0) (i := 0) 0 rfl rfl dX6_wrongAt_0 rfl ?_
  obtain ⟨f1, g2, hm3, hv4, hw1⟩ := hw
  refine j_getf X (pc' := 4) hm3 3 hv4 rfl fw_TX6 (by decide) wt_1_101 dX6_wrongAt_1 rfl ?_
  refine j_aload_n X (pc' := 5) (kk := 0) (i := 0) 0 rfl rfl dX6_wrongAt_4 rfl ?_
  refine j_iload_n X (pc' := 6) (kk := 1) (i := 1) 1 rfl rfl dX6_wrongAt_5 rfl ?_
  obtain ⟨⟨f17, hm16⟩, hw2⟩ := hw1
  refine jx_callVn (As := [.int x1]) (rest := [.ref g2]) X (pc' := 9) (cells' := 1) (slots' := 6) hout (c_X6_typeNumbered l G A hl0 o x1 μ _ _ hw2) (gk_X6_typeNumbered wt_2_121) hd_X6_typeNumbered (rmL_fit (k1 := 1) (k := 76) (by omega) (by decide)) hm16 rfl rfl rfl (Nat.le_of_ble_eq_true rfl) dX6_wrongAt_6 rfl ⟨Nat.le_of_ble_eq_true rfl, Nat.le_of_ble_eq_true rfl⟩ rfl rfl (Nat.le_of_ble_eq_true rfl) (Nat.le_of_ble_eq_true rfl) (fun r5 μ6 hw3 => ?_)
  refine j_aload_n X (pc' := 10) (kk := 0) (i := 0) 0 rfl rfl dX6_wrongAt_9 rfl ?_
  obtain ⟨f7, g8, hm9, hv10, hw4⟩ := hw3
  refine j_getf X (pc' := 13) hm9 1 hv10 rfl fw_TX6 (by decide) wt_1_99 dX6_wrongAt_10 rfl ?_
  obtain ⟨⟨f14, hm13⟩, hw5⟩ := hw4
  refine j_callVi (As := [.ref r5, .ref g8]) (rest := []) X (pc' := 16) (cells' := 1) (slots' := 6) (c_X5_walk l G A kd hkd g2 r5 g8 μ6 _ hw5) (gk_X5_walk wt_2_232) hd_X5_walk (rmL_fit (k1 := 75) (k := 76) (by omega) (by decide)) hm13 rfl rfl rfl (Nat.le_of_ble_eq_true rfl) dX6_wrongAt_13 rfl ⟨Nat.le_of_ble_eq_true rfl, Nat.le_of_ble_eq_true rfl⟩ rfl rfl (fun r11 μ12 hw6 => ?_)
  exact j_x (j_iret X ⟨_, rfl, hw6⟩ (Nat.le_of_ble_eq_true rfl) (Nat.le_of_ble_eq_true rfl) dX6_wrongAt_16)
/-! BitNotation.write(I)I -/
theorem dX6_write_0 : decode cX6_write 0 = .ok (.aload_n 0, 1) := by decide +kernel
theorem dX6_write_1 : decode cX6_write 1 = .ok (.getfield 31, 3) := by decide +kernel
theorem dX6_write_4 : decode cX6_write 4 = .ok (.aload_n 0, 1) := by decide +kernel
theorem dX6_write_5 : decode cX6_write 5 = .ok (.iload_n 1, 1) := by decide +kernel
theorem dX6_write_6 : decode cX6_write 6 = .ok (.invokevirtual 75, 3) := by decide +kernel
theorem dX6_write_9 : decode cX6_write 9 = .ok (.aload_n 0, 1) := by decide +kernel
theorem dX6_write_10 : decode cX6_write 10 = .ok (.getfield 21, 3) := by decide +kernel
theorem dX6_write_13 : decode cX6_write 13 = .ok (.invokevirtual 158, 3) := by decide +kernel
theorem dX6_write_16 : decode cX6_write 16 = .ok (.iconst (-1), 1) := by decide +kernel
theorem dX6_write_17 : decode cX6_write 17 = .ok (.if_icmp .eq 13, 3) := by decide +kernel
theorem dX6_write_20 : decode cX6_write 20 = .ok (.new 92, 3) := by decide +kernel
theorem dX6_write_23 : decode cX6_write 23 = .ok (.dup, 1) := by decide +kernel
theorem dX6_write_24 : decode cX6_write 24 = .ok (.ldc 162, 2) := by decide +kernel
theorem dX6_write_26 : decode cX6_write 26 = .ok (.invokespecial 96, 3) := by decide +kernel
theorem dX6_write_29 : decode cX6_write 29 = .ok (.athrow, 1) := by decide +kernel
theorem dX6_write_30 : decode cX6_write 30 = .ok (.aload_n 0, 1) := by decide +kernel
theorem dX6_write_31 : decode cX6_write 31 = .ok (.getfield 25, 3) := by decide +kernel
theorem dX6_write_34 : decode cX6_write 34 = .ok (.aload_n 0, 1) := by decide +kernel
theorem dX6_write_35 : decode cX6_write 35 = .ok (.getfield 31, 3) := by decide +kernel
theorem dX6_write_38 : decode cX6_write 38 = .ok (.getfield 164, 3) := by decide +kernel
theorem dX6_write_41 : decode cX6_write 41 = .ok (.invokevirtual 167, 3) := by decide +kernel
theorem dX6_write_44 : decode cX6_write 44 = .ok (.aload_n 0, 1) := by decide +kernel
theorem dX6_write_45 : decode cX6_write 45 = .ok (.getfield 25, 3) := by decide +kernel
theorem dX6_write_48 : decode cX6_write 48 = .ok (.invokevirtual 141, 3) := by decide +kernel
theorem dX6_write_51 : decode cX6_write 51 = .ok (.ireturn, 1) := by decide +kernel
def wp_X6_write (o : Nat) (kd : Nat → Nat) (x1 : Int32) (μ : Mm) (post : Int32 → Mm → Prop) (px : String → Mm → Prop) : Prop := ∃ f1 g2, μ o = some (.inl (5, f1)) ∧ f1[3]? = some (.ref g2) ∧ (∃ f42, μ o = some (.inl (5, f42))) ∧ wp_X6_typeNumbered o x1 μ (fun r5 μ6 => ∃ f7 g8, μ6 o = some (.inl (5, f7)) ∧ f7[1]? = some (.ref g8) ∧ (∃ f39, μ6 g2 = some (.inl (4, f39))) ∧ wp_X5_walk g2 kd r5 g8 μ6 (fun r11 μ12 => (r11 = (-1 : Int32) → (∃ f14 g15, μ12 o = some (.inl (5, f14)) ∧ f14[2]? = some (.ref g15) ∧ ∃ f18 g19, μ12 o = some (.inl (5, f18)) ∧ f18[3]? = some (.ref g19) ∧ ∃ f22 g23, μ12 g19 = some (.inl (4, f22)) ∧ f22[0]? = some (.ref g23) ∧ (∃ f37, μ12 g15 = some (.inl (1, f37))) ∧ wp_X2_becomeCopyOf g15 g23 μ12 (fun μ27 => ∃ f28 g29, μ27 o = some (.inl (5, f28)) ∧ f28[2]? = some (.ref g29) ∧ (∃ f35, μ27 g29 = some (.inl (1, f35))) ∧ wp_X2_size g29 μ27 (fun r32 μ33 => post r32 μ33)))) ∧ (¬ r11 = (-1 : Int32) → (px "java/lang/IllegalStateException" μ12)))) px
set_option maxHeartbeats 4000000 in
set_option maxRecDepth 100000 in
theorem c_X6_write (l : Launch) (G : gG) (A : Nat → Prop) (hl0 : l.stackTraces = false) (kd : Nat → Nat) (hkd : G.2.2 = kd) (o : Nat) (x1 : Int32) (μ : Mm) (post : Int32 → Mm → Prop) (px : String → Mm → Prop) (h : wp_X6_write o kd x1 μ post px) : vx_Met l yX6_write (.code yX6_write cX6_write 2 (some .int) :: wsA) (rmL (76) 2 12) (PcG G A μ [.ref o, .int x1]) (QG G A (pI post)) (XG G A px) 2 12 A := by
  refine metx_J (loc := [(0, .ref o), (1, .int x1)]) (by decide +kernel) (Nat.le_of_ble_eq_true rfl) rfl ?_
  intro p e s m args below meth c X hout
  have X : Cx p l s m args meth c cX6_write 2 (some .int) RX6 G A := X
  have hw := h
  unfold wp_X6_write at hw
  refine j_aload_n X (pc' := 1) (kk := 0) (i := 0) 0 rfl rfl dX6_write_0 rfl ?_
  obtain ⟨f1, g2, hm3, hv4, hw1⟩ := hw
  refine j_getf X (pc' := 4) hm3 3 hv4 rfl fw_TX6 (by decide) wt_1_101 dX6_write_1 rfl ?_
  refine j_aload_n X (pc' := 5) (kk := 0) (i := 0) 0 rfl rfl dX6_write_4 rfl ?_
  refine j_iload_n X (pc' := 6) (kk := 1) (i := 1) 1 rfl rfl dX6_write_5 rfl ?_
  obtain ⟨⟨f42, hm41⟩, hw2⟩ := hw1
  refine jx_callVn (As := [.int x1]) (rest := [.ref g2]) X (pc' := 9) (cells' := 1) (slots' := 6) hout (c_X6_typeNumbered l G A hl0 o x1 μ _ _ hw2) (gk_X6_typeNumbered wt_2_121) hd_X6_typeNumbered (rmL_fit (k1 := 1) (k := 76) (by omega) (by decide)) hm41 rfl rfl rfl (Nat.le_of_ble_eq_true rfl) dX6_write_6 rfl ⟨Nat.le_of_ble_eq_true rfl, Nat.le_of_ble_eq_true rfl⟩ rfl rfl (Nat.le_of_ble_eq_true rfl) (Nat.le_of_ble_eq_true rfl) (fun r5 μ6 hw3 => ?_)
  refine j_aload_n X (pc' := 10) (kk := 0) (i := 0) 0 rfl rfl dX6_write_9 rfl ?_
  obtain ⟨f7, g8, hm9, hv10, hw4⟩ := hw3
  refine j_getf X (pc' := 13) hm9 1 hv10 rfl fw_TX6 (by decide) wt_1_99 dX6_write_10 rfl ?_
  obtain ⟨⟨f39, hm38⟩, hw5⟩ := hw4
  refine j_callVi (As := [.ref r5, .ref g8]) (rest := []) X (pc' := 16) (cells' := 1) (slots' := 6) (c_X5_walk l G A kd hkd g2 r5 g8 μ6 _ hw5) (gk_X5_walk wt_2_232) hd_X5_walk (rmL_fit (k1 := 75) (k := 76) (by omega) (by decide)) hm38 rfl rfl rfl (Nat.le_of_ble_eq_true rfl) dX6_write_13 rfl ⟨Nat.le_of_ble_eq_true rfl, Nat.le_of_ble_eq_true rfl⟩ rfl rfl (fun r11 μ12 hw6 => ?_)
  refine j_iconst X (pc' := 17) (v := (-1)) (by decide) dX6_write_16 rfl ?_
  refine j_icmp_eq X (pc' := 20) (tgt := 30) dX6_write_17 rfl (by decide) (fun c13 => ?_) (fun c13 => ?_)
  · have hw7 := hw6.1 c13
    refine j_aload_n X (pc' := 31) (kk := 0) (i := 0) 0 rfl rfl dX6_write_30 rfl ?_
    obtain ⟨f14, g15, hm16, hv17, hw8⟩ := hw7
    refine j_getf X (pc' := 34) hm16 2 hv17 rfl fw_TX6 (by decide) wt_1_100 dX6_write_31 rfl ?_
    refine j_aload_n X (pc' := 35) (kk := 0) (i := 0) 0 rfl rfl dX6_write_34 rfl ?_
    obtain ⟨f18, g19, hm20, hv21, hw9⟩ := hw8
    refine j_getf X (pc' := 38) hm20 3 hv21 rfl fw_TX6 (by decide) wt_1_101 dX6_write_35 rfl ?_
    obtain ⟨f22, g23, hm24, hv25, hw10⟩ := hw9
    refine j_getfN X (pc' := 41) hm24 0 hv25 rfl fw_TX5 (by decide) (List.mem_of_getElem? (i := 0) rfl) dX6_write_38 rfl ?_
    obtain ⟨⟨f37, hm36⟩, hw11⟩ := hw10
    refine j_callVv (As := [.ref g23]) (rest := []) X (pc' := 44) (cells' := 1) (slots' := 6) (c_X2_becomeCopyOf l G A g15 g23 μ12 _ hw11) (gk_X2_becomeCopyOf wt_3_48) hd_X2_becomeCopyOf (rmL_fit (k1 := 1) (k := 76) (by omega) (by decide)) hm36 rfl rfl rfl (Nat.le_of_ble_eq_true rfl) dX6_write_41 rfl ⟨Nat.le_of_ble_eq_true rfl, Nat.le_of_ble_eq_true rfl⟩ rfl rfl (fun μ27 hw12 => ?_)
    refine j_aload_n X (pc' := 45) (kk := 0) (i := 0) 0 rfl rfl dX6_write_44 rfl ?_
    obtain ⟨f28, g29, hm30, hv31, hw13⟩ := hw12
    refine j_getf X (pc' := 48) hm30 2 hv31 rfl fw_TX6 (by decide) wt_1_100 dX6_write_45 rfl ?_
    obtain ⟨⟨f35, hm34⟩, hw14⟩ := hw13
    refine j_callVi (As := []) (rest := []) X (pc' := 51) (cells' := 1) (slots' := 6) (c_X2_size l G A g29 μ27 _ hw14) (gk_X2_size wt_1_140) hd_X2_size (rmL_fit (k1 := 0) (k := 76) (by omega) (by decide)) hm34 rfl rfl rfl (Nat.le_of_ble_eq_true rfl) dX6_write_48 rfl ⟨Nat.le_of_ble_eq_true rfl, Nat.le_of_ble_eq_true rfl⟩ rfl rfl (fun r32 μ33 hw15 => ?_)
    exact j_x (j_iret X ⟨_, rfl, hw15⟩ (Nat.le_of_ble_eq_true rfl) (Nat.le_of_ble_eq_true rfl) dX6_write_51)
  · have hw16 := hw6.2 c13
    exact jx_throw X hout hl0 (List.mem_of_getElem? (i := 1) rfl) (List.mem_of_getElem? (i := 9) rfl) wt_2_91 wt_1_14 xg_1 xn_1 (by decide +kernel) xk_1 dX6_write_20 dX6_write_23 dX6_write_24 dX6_write_26 dX6_write_29 (Nat.le_of_ble_eq_true rfl) (Nat.le_of_ble_eq_true rfl) (Nat.le_of_ble_eq_true rfl) (Nat.le_of_ble_eq_true rfl) (Nat.le_of_ble_eq_true rfl) (Nat.le_of_ble_eq_true rfl) hw16
/-! BitNotation.bits()I -/
theorem dX6_bits_0 : decode cX6_bits 0 = .ok (.aload_n 0, 1) := by decide +kernel
theorem dX6_bits_1 : decode cX6_bits 1 = .ok (.getfield 25, 3) := by decide +kernel
theorem dX6_bits_4 : decode cX6_bits 4 = .ok (.invokevirtual 141, 3) := by decide +kernel
theorem dX6_bits_7 : decode cX6_bits 7 = .ok (.ireturn, 1) := by decide +kernel
def wp_X6_bits (o : Nat) (μ : Mm) (post : Int32 → Mm → Prop) : Prop := ∃ f1 g2, μ o = some (.inl (5, f1)) ∧ f1[2]? = some (.ref g2) ∧ (∃ f8, μ g2 = some (.inl (1, f8))) ∧ wp_X2_size g2 μ (fun r5 μ6 => post r5 μ6)
set_option maxHeartbeats 4000000 in
set_option maxRecDepth 100000 in
theorem c_X6_bits (l : Launch) (G : gG) (A : Nat → Prop) (o : Nat) (μ : Mm) (post : Int32 → Mm → Prop) (h : wp_X6_bits o μ post) : Met l yX6_bits (.code yX6_bits cX6_bits 1 (some .int) :: wsA) (rmL (1) 0 0) (PcG G A μ [.ref o]) (QG G A (pI post)) 0 0 A := by
  refine met_J (loc := [(0, .ref o)]) (by decide +kernel) (Nat.le_of_ble_eq_true rfl) rfl ?_
  intro p e s m args below meth c X hin
  have X : Cx p l s m args meth c cX6_bits 1 (some .int) RX6 G A := X
  have hw := h
  unfold wp_X6_bits at hw
  refine j_aload_n X (pc' := 1) (kk := 0) (i := 0) 0 rfl rfl dX6_bits_0 rfl ?_
  obtain ⟨f1, g2, hm3, hv4, hw1⟩ := hw
  refine j_getf X (pc' := 4) hm3 2 hv4 rfl fw_TX6 (by decide) wt_1_100 dX6_bits_1 rfl ?_
  obtain ⟨⟨f8, hm7⟩, hw2⟩ := hw1
  refine j_callVi (As := []) (rest := []) X (pc' := 7) (cells' := 0) (slots' := 0) (c_X2_size l G A g2 μ _ hw2) (gk_X2_size wt_1_140) hd_X2_size (rmL_fit (k1 := 0) (k := 1) (by omega) (by decide)) hm7 rfl rfl rfl (Nat.le_of_ble_eq_true rfl) dX6_bits_4 rfl ⟨Nat.le_of_ble_eq_true rfl, Nat.le_of_ble_eq_true rfl⟩ rfl rfl (fun r5 μ6 hw3 => ?_)
  exact j_iret X ⟨_, rfl, hw3⟩ (Nat.le_of_ble_eq_true rfl) (Nat.le_of_ble_eq_true rfl) dX6_bits_7
/-! BitNotation.bit(I)I -/
theorem dX6_bit_0 : decode cX6_bit 0 = .ok (.aload_n 0, 1) := by decide +kernel
theorem dX6_bit_1 : decode cX6_bit 1 = .ok (.getfield 25, 3) := by decide +kernel
theorem dX6_bit_4 : decode cX6_bit 4 = .ok (.iload_n 1, 1) := by decide +kernel
theorem dX6_bit_5 : decode cX6_bit 5 = .ok (.invokevirtual 145, 3) := by decide +kernel
theorem dX6_bit_8 : decode cX6_bit 8 = .ok (.ifCond .ne 13, 3) := by decide +kernel
theorem dX6_bit_11 : decode cX6_bit 11 = .ok (.new 149, 3) := by decide +kernel
theorem dX6_bit_14 : decode cX6_bit 14 = .ok (.dup, 1) := by decide +kernel
theorem dX6_bit_15 : decode cX6_bit 15 = .ok (.ldc 171, 2) := by decide +kernel
theorem dX6_bit_17 : decode cX6_bit 17 = .ok (.invokespecial 153, 3) := by decide +kernel
theorem dX6_bit_20 : decode cX6_bit 20 = .ok (.athrow, 1) := by decide +kernel
theorem dX6_bit_21 : decode cX6_bit 21 = .ok (.aload_n 0, 1) := by decide +kernel
theorem dX6_bit_22 : decode cX6_bit 22 = .ok (.getfield 25, 3) := by decide +kernel
theorem dX6_bit_25 : decode cX6_bit 25 = .ok (.iload_n 1, 1) := by decide +kernel
theorem dX6_bit_26 : decode cX6_bit 26 = .ok (.invokevirtual 154, 3) := by decide +kernel
theorem dX6_bit_29 : decode cX6_bit 29 = .ok (.ireturn, 1) := by decide +kernel
def wp_X6_bit (o : Nat) (x1 : Int32) (μ : Mm) (post : Int32 → Mm → Prop) (px : String → Mm → Prop) : Prop := ∃ f1 g2, μ o = some (.inl (5, f1)) ∧ f1[2]? = some (.ref g2) ∧ (∃ f17, μ g2 = some (.inl (1, f17))) ∧ wp_X2_has g2 x1 μ (fun r5 μ6 => (¬ r5 = 0 → (∃ f8 g9, μ6 o = some (.inl (5, f8)) ∧ f8[2]? = some (.ref g9) ∧ (∃ f15, μ6 g9 = some (.inl (1, f15))) ∧ wp_X2_at g9 x1 μ6 (fun r12 μ13 => post r12 μ13))) ∧ (r5 = 0 → (px "java/lang/IndexOutOfBoundsException" μ6)))
set_option maxHeartbeats 4000000 in
set_option maxRecDepth 100000 in
theorem c_X6_bit (l : Launch) (G : gG) (A : Nat → Prop) (hl0 : l.stackTraces = false) (o : Nat) (x1 : Int32) (μ : Mm) (post : Int32 → Mm → Prop) (px : String → Mm → Prop) (h : wp_X6_bit o x1 μ post px) : vx_Met l yX6_bit (.code yX6_bit cX6_bit 2 (some .int) :: wsA) (rmL (1) 1 6) (PcG G A μ [.ref o, .int x1]) (QG G A (pI post)) (XG G A px) 1 6 A := by
  refine metx_J (loc := [(0, .ref o), (1, .int x1)]) (by decide +kernel) (Nat.le_of_ble_eq_true rfl) rfl ?_
  intro p e s m args below meth c X hout
  have X : Cx p l s m args meth c cX6_bit 2 (some .int) RX6 G A := X
  have hw := h
  unfold wp_X6_bit at hw
  refine j_aload_n X (pc' := 1) (kk := 0) (i := 0) 0 rfl rfl dX6_bit_0 rfl ?_
  obtain ⟨f1, g2, hm3, hv4, hw1⟩ := hw
  refine j_getf X (pc' := 4) hm3 2 hv4 rfl fw_TX6 (by decide) wt_1_100 dX6_bit_1 rfl ?_
  refine j_iload_n X (pc' := 5) (kk := 1) (i := 1) 1 rfl rfl dX6_bit_4 rfl ?_
  obtain ⟨⟨f17, hm16⟩, hw2⟩ := hw1
  refine j_callVi (As := [.int x1]) (rest := []) X (pc' := 8) (cells' := 0) (slots' := 0) (c_X2_has l G A g2 x1 μ _ hw2) (gk_X2_has wt_2_212) hd_X2_has (rmL_fit (k1 := 0) (k := 1) (by omega) (by decide)) hm16 rfl rfl rfl (Nat.le_of_ble_eq_true rfl) dX6_bit_5 rfl ⟨Nat.le_of_ble_eq_true rfl, Nat.le_of_ble_eq_true rfl⟩ rfl rfl (fun r5 μ6 hw3 => ?_)
  refine j_if_ne X (pc' := 11) (tgt := 21) dX6_bit_8 rfl (by decide) (fun c7 => ?_) (fun c7 => ?_)
  · have hw4 := hw3.1 c7
    refine j_aload_n X (pc' := 22) (kk := 0) (i := 0) 0 rfl rfl dX6_bit_21 rfl ?_
    obtain ⟨f8, g9, hm10, hv11, hw5⟩ := hw4
    refine j_getf X (pc' := 25) hm10 2 hv11 rfl fw_TX6 (by decide) wt_1_100 dX6_bit_22 rfl ?_
    refine j_iload_n X (pc' := 26) (kk := 1) (i := 1) 1 rfl rfl dX6_bit_25 rfl ?_
    obtain ⟨⟨f15, hm14⟩, hw6⟩ := hw5
    refine j_callVi (As := [.int x1]) (rest := []) X (pc' := 29) (cells' := 0) (slots' := 0) (c_X2_at l G A g9 x1 μ6 _ hw6) (gk_X2_at wt_2_217) hd_X2_at (rmL_fit (k1 := 0) (k := 1) (by omega) (by decide)) hm14 rfl rfl rfl (Nat.le_of_ble_eq_true rfl) dX6_bit_26 rfl ⟨Nat.le_of_ble_eq_true rfl, Nat.le_of_ble_eq_true rfl⟩ rfl rfl (fun r12 μ13 hw7 => ?_)
    exact j_x (j_iret X ⟨_, rfl, hw7⟩ (Nat.le_of_ble_eq_true rfl) (Nat.le_of_ble_eq_true rfl) dX6_bit_29)
  · have hw8 := hw3.2 c7
    exact jx_throw X hout hl0 (List.mem_of_getElem? (i := 2) rfl) (List.mem_of_getElem? (i := 10) rfl) wt_2_126 wt_1_15 xg_2 xn_2 (by decide +kernel) xk_2 dX6_bit_11 dX6_bit_14 dX6_bit_15 dX6_bit_17 dX6_bit_20 (Nat.le_of_ble_eq_true rfl) (Nat.le_of_ble_eq_true rfl) (Nat.le_of_ble_eq_true rfl) (Nat.le_of_ble_eq_true rfl) (Nat.le_of_ble_eq_true rfl) (Nat.le_of_ble_eq_true rfl) hw8
/-! BitNotation.flip(I)I -/
theorem dX6_flip_0 : decode cX6_flip 0 = .ok (.aload_n 0, 1) := by decide +kernel
theorem dX6_flip_1 : decode cX6_flip 1 = .ok (.getfield 25, 3) := by decide +kernel
theorem dX6_flip_4 : decode cX6_flip 4 = .ok (.iload_n 1, 1) := by decide +kernel
theorem dX6_flip_5 : decode cX6_flip 5 = .ok (.invokevirtual 145, 3) := by decide +kernel
theorem dX6_flip_8 : decode cX6_flip 8 = .ok (.ifCond .ne 13, 3) := by decide +kernel
theorem dX6_flip_11 : decode cX6_flip 11 = .ok (.new 149, 3) := by decide +kernel
theorem dX6_flip_14 : decode cX6_flip 14 = .ok (.dup, 1) := by decide +kernel
theorem dX6_flip_15 : decode cX6_flip 15 = .ok (.ldc 171, 2) := by decide +kernel
theorem dX6_flip_17 : decode cX6_flip 17 = .ok (.invokespecial 153, 3) := by decide +kernel
theorem dX6_flip_20 : decode cX6_flip 20 = .ok (.athrow, 1) := by decide +kernel
theorem dX6_flip_21 : decode cX6_flip 21 = .ok (.aload_n 0, 1) := by decide +kernel
theorem dX6_flip_22 : decode cX6_flip 22 = .ok (.getfield 25, 3) := by decide +kernel
theorem dX6_flip_25 : decode cX6_flip 25 = .ok (.iload_n 1, 1) := by decide +kernel
theorem dX6_flip_26 : decode cX6_flip 26 = .ok (.iconst 1, 1) := by decide +kernel
theorem dX6_flip_27 : decode cX6_flip 27 = .ok (.aload_n 0, 1) := by decide +kernel
theorem dX6_flip_28 : decode cX6_flip 28 = .ok (.getfield 25, 3) := by decide +kernel
theorem dX6_flip_31 : decode cX6_flip 31 = .ok (.iload_n 1, 1) := by decide +kernel
theorem dX6_flip_32 : decode cX6_flip 32 = .ok (.invokevirtual 154, 3) := by decide +kernel
theorem dX6_flip_35 : decode cX6_flip 35 = .ok (.isub, 1) := by decide +kernel
theorem dX6_flip_36 : decode cX6_flip 36 = .ok (.invokevirtual 173, 3) := by decide +kernel
theorem dX6_flip_39 : decode cX6_flip 39 = .ok (.aload_n 0, 1) := by decide +kernel
theorem dX6_flip_40 : decode cX6_flip 40 = .ok (.getfield 25, 3) := by decide +kernel
theorem dX6_flip_43 : decode cX6_flip 43 = .ok (.iload_n 1, 1) := by decide +kernel
theorem dX6_flip_44 : decode cX6_flip 44 = .ok (.invokevirtual 154, 3) := by decide +kernel
theorem dX6_flip_47 : decode cX6_flip 47 = .ok (.ireturn, 1) := by decide +kernel
def wp_X6_flip (o : Nat) (x1 : Int32) (μ : Mm) (post : Int32 → Mm → Prop) (px : String → Mm → Prop) : Prop := ∃ f1 g2, μ o = some (.inl (5, f1)) ∧ f1[2]? = some (.ref g2) ∧ (∃ f33, μ g2 = some (.inl (1, f33))) ∧ wp_X2_has g2 x1 μ (fun r5 μ6 => (¬ r5 = 0 → (∃ f8 g9, μ6 o = some (.inl (5, f8)) ∧ f8[2]? = some (.ref g9) ∧ ∃ f12 g13, μ6 o = some (.inl (5, f12)) ∧ f12[2]? = some (.ref g13) ∧ (∃ f31, μ6 g13 = some (.inl (1, f31))) ∧ wp_X2_at g13 x1 μ6 (fun r16 μ17 => (∃ f29, μ17 g9 = some (.inl (1, f29))) ∧ wp_X2_replace g9 x1 ((1 : Int32) - r16) μ17 (fun μ19 => ∃ f20 g21, μ19 o = some (.inl (5, f20)) ∧ f20[2]? = some (.ref g21) ∧ (∃ f27, μ19 g21 = some (.inl (1, f27))) ∧ wp_X2_at g21 x1 μ19 (fun r24 μ25 => post r24 μ25))))) ∧ (r5 = 0 → (px "java/lang/IndexOutOfBoundsException" μ6)))
set_option maxHeartbeats 4000000 in
set_option maxRecDepth 100000 in
theorem c_X6_flip (l : Launch) (G : gG) (A : Nat → Prop) (hl0 : l.stackTraces = false) (o : Nat) (x1 : Int32) (μ : Mm) (post : Int32 → Mm → Prop) (px : String → Mm → Prop) (h : wp_X6_flip o x1 μ post px) : vx_Met l yX6_flip (.code yX6_flip cX6_flip 2 (some .int) :: wsA) (rmL (2) 1 6) (PcG G A μ [.ref o, .int x1]) (QG G A (pI post)) (XG G A px) 1 6 A := by
  refine metx_J (loc := [(0, .ref o), (1, .int x1)]) (by decide +kernel) (Nat.le_of_ble_eq_true rfl) rfl ?_
  intro p e s m args below meth c X hout
  have X : Cx p l s m args meth c cX6_flip 2 (some .int) RX6 G A := X
  have hw := h
  unfold wp_X6_flip at hw
  refine j_aload_n X (pc' := 1) (kk := 0) (i := 0) 0 rfl rfl dX6_flip_0 rfl ?_
  obtain ⟨f1, g2, hm3, hv4, hw1⟩ := hw
  refine j_getf X (pc' := 4) hm3 2 hv4 rfl fw_TX6 (by decide) wt_1_100 dX6_flip_1 rfl ?_
  refine j_iload_n X (pc' := 5) (kk := 1) (i := 1) 1 rfl rfl dX6_flip_4 rfl ?_
  obtain ⟨⟨f33, hm32⟩, hw2⟩ := hw1
  refine j_callVi (As := [.int x1]) (rest := []) X (pc' := 8) (cells' := 0) (slots' := 0) (c_X2_has l G A g2 x1 μ _ hw2) (gk_X2_has wt_2_212) hd_X2_has (rmL_fit (k1 := 0) (k := 2) (by omega) (by decide)) hm32 rfl rfl rfl (Nat.le_of_ble_eq_true rfl) dX6_flip_5 rfl ⟨Nat.le_of_ble_eq_true rfl, Nat.le_of_ble_eq_true rfl⟩ rfl rfl (fun r5 μ6 hw3 => ?_)
  refine j_if_ne X (pc' := 11) (tgt := 21) dX6_flip_8 rfl (by decide) (fun c7 => ?_) (fun c7 => ?_)
  · have hw4 := hw3.1 c7
    refine j_aload_n X (pc' := 22) (kk := 0) (i := 0) 0 rfl rfl dX6_flip_21 rfl ?_
    obtain ⟨f8, g9, hm10, hv11, hw5⟩ := hw4
    refine j_getf X (pc' := 25) hm10 2 hv11 rfl fw_TX6 (by decide) wt_1_100 dX6_flip_22 rfl ?_
    refine j_iload_n X (pc' := 26) (kk := 1) (i := 1) 1 rfl rfl dX6_flip_25 rfl ?_
    refine j_iconst X (pc' := 27) (v := 1) (by decide) dX6_flip_26 rfl ?_
    refine j_aload_n X (pc' := 28) (kk := 0) (i := 0) 0 rfl rfl dX6_flip_27 rfl ?_
    obtain ⟨f12, g13, hm14, hv15, hw6⟩ := hw5
    refine j_getf X (pc' := 31) hm14 2 hv15 rfl fw_TX6 (by decide) wt_1_100 dX6_flip_28 rfl ?_
    refine j_iload_n X (pc' := 32) (kk := 1) (i := 1) 1 rfl rfl dX6_flip_31 rfl ?_
    obtain ⟨⟨f31, hm30⟩, hw7⟩ := hw6
    refine j_callVi (As := [.int x1]) (rest := [.int ((1 : Int32)), .int x1, .ref g9]) X (pc' := 35) (cells' := 0) (slots' := 0) (c_X2_at l G A g13 x1 μ6 _ hw7) (gk_X2_at wt_2_217) hd_X2_at (rmL_fit (k1 := 0) (k := 2) (by omega) (by decide)) hm30 rfl rfl rfl (Nat.le_of_ble_eq_true rfl) dX6_flip_32 rfl ⟨Nat.le_of_ble_eq_true rfl, Nat.le_of_ble_eq_true rfl⟩ rfl rfl (fun r16 μ17 hw8 => ?_)
    refine j_isub X (pc' := 36) dX6_flip_35 rfl ?_
    obtain ⟨⟨f29, hm28⟩, hw9⟩ := hw8
    refine j_callVv (As := [.int x1, .int ((1 : Int32) - r16)]) (rest := []) X (pc' := 39) (cells' := 0) (slots' := 0) (c_X2_replace l G A g9 x1 ((1 : Int32) - r16) μ17 _ hw9) (gk_X2_replace wt_3_71) hd_X2_replace (rmL_fit (k1 := 1) (k := 2) (by omega) (by decide)) hm28 rfl rfl rfl (Nat.le_of_ble_eq_true rfl) dX6_flip_36 rfl ⟨Nat.le_of_ble_eq_true rfl, Nat.le_of_ble_eq_true rfl⟩ rfl rfl (fun μ19 hw10 => ?_)
    refine j_aload_n X (pc' := 40) (kk := 0) (i := 0) 0 rfl rfl dX6_flip_39 rfl ?_
    obtain ⟨f20, g21, hm22, hv23, hw11⟩ := hw10
    refine j_getf X (pc' := 43) hm22 2 hv23 rfl fw_TX6 (by decide) wt_1_100 dX6_flip_40 rfl ?_
    refine j_iload_n X (pc' := 44) (kk := 1) (i := 1) 1 rfl rfl dX6_flip_43 rfl ?_
    obtain ⟨⟨f27, hm26⟩, hw12⟩ := hw11
    refine j_callVi (As := [.int x1]) (rest := []) X (pc' := 47) (cells' := 0) (slots' := 0) (c_X2_at l G A g21 x1 μ19 _ hw12) (gk_X2_at wt_2_217) hd_X2_at (rmL_fit (k1 := 0) (k := 2) (by omega) (by decide)) hm26 rfl rfl rfl (Nat.le_of_ble_eq_true rfl) dX6_flip_44 rfl ⟨Nat.le_of_ble_eq_true rfl, Nat.le_of_ble_eq_true rfl⟩ rfl rfl (fun r24 μ25 hw13 => ?_)
    exact j_x (j_iret X ⟨_, rfl, hw13⟩ (Nat.le_of_ble_eq_true rfl) (Nat.le_of_ble_eq_true rfl) dX6_flip_47)
  · have hw14 := hw3.2 c7
    exact jx_throw X hout hl0 (List.mem_of_getElem? (i := 2) rfl) (List.mem_of_getElem? (i := 10) rfl) wt_2_126 wt_1_15 xg_2 xn_2 (by decide +kernel) xk_2 dX6_flip_11 dX6_flip_14 dX6_flip_15 dX6_flip_17 dX6_flip_20 (Nat.le_of_ble_eq_true rfl) (Nat.le_of_ble_eq_true rfl) (Nat.le_of_ble_eq_true rfl) (Nat.le_of_ble_eq_true rfl) (Nat.le_of_ble_eq_true rfl) (Nat.le_of_ble_eq_true rfl) hw14
/-! BitNotation.cut(I)I -/
theorem dX6_cut_0 : decode cX6_cut 0 = .ok (.aload_n 0, 1) := by decide +kernel
theorem dX6_cut_1 : decode cX6_cut 1 = .ok (.getfield 25, 3) := by decide +kernel
theorem dX6_cut_4 : decode cX6_cut 4 = .ok (.invokevirtual 141, 3) := by decide +kernel
theorem dX6_cut_7 : decode cX6_cut 7 = .ok (.istore_n 2, 1) := by decide +kernel
theorem dX6_cut_8 : decode cX6_cut 8 = .ok (.iload_n 1, 1) := by decide +kernel
theorem dX6_cut_9 : decode cX6_cut 9 = .ok (.iconst 0, 1) := by decide +kernel
theorem dX6_cut_10 : decode cX6_cut 10 = .ok (.iload_n 2, 1) := by decide +kernel
theorem dX6_cut_11 : decode cX6_cut 11 = .ok (.invokestatic 49, 3) := by decide +kernel
theorem dX6_cut_14 : decode cX6_cut 14 = .ok (.ifCond .eq 13, 3) := by decide +kernel
theorem dX6_cut_17 : decode cX6_cut 17 = .ok (.new 53, 3) := by decide +kernel
theorem dX6_cut_20 : decode cX6_cut 20 = .ok (.dup, 1) := by decide +kernel
theorem dX6_cut_21 : decode cX6_cut 21 = .ok (.ldc 177, 2) := by decide +kernel
theorem dX6_cut_23 : decode cX6_cut 23 = .ok (.invokespecial 57, 3) := by decide +kernel
theorem dX6_cut_26 : decode cX6_cut 26 = .ok (.athrow, 1) := by decide +kernel
theorem dX6_cut_27 : decode cX6_cut 27 = .ok (.aload_n 0, 1) := by decide +kernel
theorem dX6_cut_28 : decode cX6_cut 28 = .ok (.getfield 25, 3) := by decide +kernel
theorem dX6_cut_31 : decode cX6_cut 31 = .ok (.iload_n 1, 1) := by decide +kernel
theorem dX6_cut_32 : decode cX6_cut 32 = .ok (.invokevirtual 142, 3) := by decide +kernel
theorem dX6_cut_35 : decode cX6_cut 35 = .ok (.iload_n 2, 1) := by decide +kernel
theorem dX6_cut_36 : decode cX6_cut 36 = .ok (.iload_n 1, 1) := by decide +kernel
theorem dX6_cut_37 : decode cX6_cut 37 = .ok (.isub, 1) := by decide +kernel
theorem dX6_cut_38 : decode cX6_cut 38 = .ok (.ireturn, 1) := by decide +kernel
def wp_X6_cut (o : Nat) (x1 : Int32) (μ : Mm) (post : Int32 → Mm → Prop) (px : String → Mm → Prop) : Prop := ∃ f1 g2, μ o = some (.inl (5, f1)) ∧ f1[2]? = some (.ref g2) ∧ (∃ f19, μ g2 = some (.inl (1, f19))) ∧ wp_X2_size g2 μ (fun r5 μ6 => wp_X6_isOutside x1 (0 : Int32) r5 (fun r7 => (r7 = 0 → (∃ f9 g10, μ6 o = some (.inl (5, f9)) ∧ f9[2]? = some (.ref g10) ∧ (∃ f16, μ6 g10 = some (.inl (1, f16))) ∧ wp_X2_keepFirst g10 x1 μ6 (fun μ14 => post (r5 - x1) μ14))) ∧ (¬ r7 = 0 → (px "java/lang/IllegalArgumentException" μ6))))
set_option maxHeartbeats 4000000 in
set_option maxRecDepth 100000 in
theorem c_X6_cut (l : Launch) (G : gG) (A : Nat → Prop) (hl0 : l.stackTraces = false) (o : Nat) (x1 : Int32) (μ : Mm) (post : Int32 → Mm → Prop) (px : String → Mm → Prop) (h : wp_X6_cut o x1 μ post px) : vx_Met l yX6_cut (.code yX6_cut cX6_cut 3 (some .int) :: wsA) (rmL (1) 1 6) (PcG G A μ [.ref o, .int x1]) (QG G A (pI post)) (XG G A px) 1 6 A := by
  refine metx_J (loc := [(0, .ref o), (1, .int x1)]) (by decide +kernel) (Nat.le_of_ble_eq_true rfl) rfl ?_
  intro p e s m args below meth c X hout
  have X : Cx p l s m args meth c cX6_cut 3 (some .int) RX6 G A := X
  have hw := h
  unfold wp_X6_cut at hw
  refine j_aload_n X (pc' := 1) (kk := 0) (i := 0) 0 rfl rfl dX6_cut_0 rfl ?_
  obtain ⟨f1, g2, hm3, hv4, hw1⟩ := hw
  refine j_getf X (pc' := 4) hm3 2 hv4 rfl fw_TX6 (by decide) wt_1_100 dX6_cut_1 rfl ?_
  obtain ⟨⟨f19, hm18⟩, hw2⟩ := hw1
  refine j_callVi (As := []) (rest := []) X (pc' := 7) (cells' := 0) (slots' := 0) (c_X2_size l G A g2 μ _ hw2) (gk_X2_size wt_1_140) hd_X2_size (rmL_fit (k1 := 0) (k := 1) (by omega) (by decide)) hm18 rfl rfl rfl (Nat.le_of_ble_eq_true rfl) dX6_cut_4 rfl ⟨Nat.le_of_ble_eq_true rfl, Nat.le_of_ble_eq_true rfl⟩ rfl rfl (fun r5 μ6 hw3 => ?_)
  refine j_istore_n X (pc' := 8) (kk := 2) (i := 2) (loc' := [(2, .int r5), (0, .ref o), (1, .int x1)]) dX6_cut_7 rfl rfl (by decide) rfl ?_
  refine j_iload_n X (pc' := 9) (kk := 1) (i := 1) 2 rfl rfl dX6_cut_8 rfl ?_
  refine j_iconst X (pc' := 10) (v := 0) (by decide) dX6_cut_9 rfl ?_
  refine j_iload_n X (pc' := 11) (kk := 2) (i := 2) 0 rfl rfl dX6_cut_10 rfl ?_
  refine j_callSp (As := [.int x1, .int (0 : Int32), .int r5]) (rest := []) X (pc' := 14) (cells' := 0) (slots' := 0) (c_X6_isOutside l G A μ6 x1 (0 : Int32) r5 _ hw3) (gk_X6_isOutside wt_1_153) hd_X6_isOutside (rmL_fit (k1 := 0) (k := 1) (by omega) (by decide)) rfl rfl (Nat.le_of_ble_eq_true rfl) dX6_cut_11 rfl ⟨Nat.le_of_ble_eq_true rfl, Nat.le_of_ble_eq_true rfl⟩ rfl rfl (fun r7 hw4 => ?_)
  refine j_if_eq X (pc' := 17) (tgt := 27) dX6_cut_14 rfl (by decide) (fun c8 => ?_) (fun c8 => ?_)
  · have hw5 := hw4.1 c8
    refine j_aload_n X (pc' := 28) (kk := 0) (i := 0) 1 rfl rfl dX6_cut_27 rfl ?_
    obtain ⟨f9, g10, hm11, hv12, hw6⟩ := hw5
    refine j_getf X (pc' := 31) hm11 2 hv12 rfl fw_TX6 (by decide) wt_1_100 dX6_cut_28 rfl ?_
    refine j_iload_n X (pc' := 32) (kk := 1) (i := 1) 2 rfl rfl dX6_cut_31 rfl ?_
    obtain ⟨⟨f16, hm15⟩, hw7⟩ := hw6
    refine j_callVv (As := [.int x1]) (rest := []) X (pc' := 35) (cells' := 0) (slots' := 0) (c_X2_keepFirst l G A g10 x1 μ6 _ hw7) (gk_X2_keepFirst wt_3_80) hd_X2_keepFirst (rmL_fit (k1 := 0) (k := 1) (by omega) (by decide)) hm15 rfl rfl rfl (Nat.le_of_ble_eq_true rfl) dX6_cut_32 rfl ⟨Nat.le_of_ble_eq_true rfl, Nat.le_of_ble_eq_true rfl⟩ rfl rfl (fun μ14 hw8 => ?_)
    refine j_iload_n X (pc' := 36) (kk := 2) (i := 2) 0 rfl rfl dX6_cut_35 rfl ?_
    refine j_iload_n X (pc' := 37) (kk := 1) (i := 1) 2 rfl rfl dX6_cut_36 rfl ?_
    refine j_isub X (pc' := 38) dX6_cut_37 rfl ?_
    exact j_x (j_iret X ⟨_, rfl, hw8⟩ (Nat.le_of_ble_eq_true rfl) (Nat.le_of_ble_eq_true rfl) dX6_cut_38)
  · have hw9 := hw4.2 c8
    exact jx_throw X hout hl0 (List.mem_of_getElem? (i := 0) rfl) (List.mem_of_getElem? (i := 11) rfl) wt_1_156 wt_1_10 xg_0 xn_0 (by decide +kernel) xk_0 dX6_cut_17 dX6_cut_20 dX6_cut_21 dX6_cut_23 dX6_cut_26 (Nat.le_of_ble_eq_true rfl) (Nat.le_of_ble_eq_true rfl) (Nat.le_of_ble_eq_true rfl) (Nat.le_of_ble_eq_true rfl) (Nat.le_of_ble_eq_true rfl) (Nat.le_of_ble_eq_true rfl) hw9
/-! BitNotation.placeOfFault(II)I -/
theorem dX6_placeOfFault_0 : decode cX6_placeOfFault 0 = .ok (.aload_n 0, 1) := by decide +kernel
theorem dX6_placeOfFault_1 : decode cX6_placeOfFault 1 = .ok (.iload_n 1, 1) := by decide +kernel
theorem dX6_placeOfFault_2 : decode cX6_placeOfFault 2 = .ok (.invokevirtual 75, 3) := by decide +kernel
theorem dX6_placeOfFault_5 : decode cX6_placeOfFault 5 = .ok (.astore_n 3, 1) := by decide +kernel
theorem dX6_placeOfFault_6 : decode cX6_placeOfFault 6 = .ok (.iload_n 2, 1) := by decide +kernel
theorem dX6_placeOfFault_7 : decode cX6_placeOfFault 7 = .ok (.iconst 0, 1) := by decide +kernel
theorem dX6_placeOfFault_8 : decode cX6_placeOfFault 8 = .ok (.iconst 3, 1) := by decide +kernel
theorem dX6_placeOfFault_9 : decode cX6_placeOfFault 9 = .ok (.invokestatic 49, 3) := by decide +kernel
theorem dX6_placeOfFault_12 : decode cX6_placeOfFault 12 = .ok (.ifCond .eq 13, 3) := by decide +kernel
theorem dX6_placeOfFault_15 : decode cX6_placeOfFault 15 = .ok (.new 53, 3) := by decide +kernel
theorem dX6_placeOfFault_18 : decode cX6_placeOfFault 18 = .ok (.dup, 1) := by decide +kernel
theorem dX6_placeOfFault_19 : decode cX6_placeOfFault 19 = .ok (.ldc 199, 2) := by decide +kernel
theorem dX6_placeOfFault_21 : decode cX6_placeOfFault 21 = .ok (.invokespecial 57, 3) := by decide +kernel
theorem dX6_placeOfFault_24 : decode cX6_placeOfFault 24 = .ok (.athrow, 1) := by decide +kernel
theorem dX6_placeOfFault_25 : decode cX6_placeOfFault 25 = .ok (.aload_n 0, 1) := by decide +kernel
theorem dX6_placeOfFault_26 : decode cX6_placeOfFault 26 = .ok (.getfield 38, 3) := by decide +kernel
theorem dX6_placeOfFault_29 : decode cX6_placeOfFault 29 = .ok (.aload_n 3, 1) := by decide +kernel
theorem dX6_placeOfFault_30 : decode cX6_placeOfFault 30 = .ok (.aload_n 0, 1) := by decide +kernel
theorem dX6_placeOfFault_31 : decode cX6_placeOfFault 31 = .ok (.getfield 25, 3) := by decide +kernel
theorem dX6_placeOfFault_34 : decode cX6_placeOfFault 34 = .ok (.iload_n 2, 1) := by decide +kernel
theorem dX6_placeOfFault_35 : decode cX6_placeOfFault 35 = .ok (.invokevirtual 201, 3) := by decide +kernel
theorem dX6_placeOfFault_38 : decode cX6_placeOfFault 38 = .ok (.ireturn, 1) := by decide +kernel
def wp_X6_placeOfFault (o : Nat) (kd : Nat → Nat) (x1 : Int32) (x2 : Int32) (μ : Mm) (post : Int32 → Mm → Prop) (px : String → Mm → Prop) : Prop := (∃ f20, μ o = some (.inl (5, f20))) ∧ wp_X6_typeNumbered o x1 μ (fun r1 μ2 => wp_X6_isOutside x2 (0 : Int32) (3 : Int32) (fun r3 => (r3 = 0 → (∃ f5 g6, μ2 o = some (.inl (5, f5)) ∧ f5[4]? = some (.ref g6) ∧ ∃ f9 g10, μ2 o = some (.inl (5, f9)) ∧ f9[2]? = some (.ref g10) ∧ (∃ f16, μ2 g6 = some (.inl (0, f16))) ∧ wp_X1_walk g6 kd r1 g10 x2 μ2 (fun r13 μ14 => post r13 μ14))) ∧ (¬ r3 = 0 → (px "java/lang/IllegalArgumentException" μ2)))) px
set_option maxHeartbeats 4000000 in
set_option maxRecDepth 100000 in
theorem c_X6_placeOfFault (l : Launch) (G : gG) (A : Nat → Prop) (hl0 : l.stackTraces = false) (kd : Nat → Nat) (hkd : G.2.2 = kd) (o : Nat) (x1 : Int32) (x2 : Int32) (μ : Mm) (post : Int32 → Mm → Prop) (px : String → Mm → Prop) (h : wp_X6_placeOfFault o kd x1 x2 μ post px) : vx_Met l yX6_placeOfFault (.code yX6_placeOfFault cX6_placeOfFault 4 (some .int) :: wsA) (rmL (76) 2 12) (PcG G A μ [.ref o, .int x1, .int x2]) (QG G A (pI post)) (XG G A px) 2 12 A := by
  refine metx_J (loc := [(0, .ref o), (1, .int x1), (2, .int x2)]) (by decide +kernel) (Nat.le_of_ble_eq_true rfl) rfl ?_
  intro p e s m args below meth c X hout
  have X : Cx p l s m args meth c cX6_placeOfFault 4 (some .int) RX6 G A := X
  have hw := h
  unfold wp_X6_placeOfFault at hw
  refine j_aload_n X (pc' := 1) (kk := 0) (i := 0) 0 rfl rfl dX6_placeOfFault_0 rfl ?_
  refine j_iload_n X (pc' := 2) (kk := 1) (i := 1) 1 rfl rfl dX6_placeOfFault_1 rfl ?_
  obtain ⟨⟨f20, hm19⟩, hw1⟩ := hw
  refine jx_callVn (As := [.int x1]) (rest := []) X (pc' := 5) (cells' := 1) (slots' := 6) hout (c_X6_typeNumbered l G A hl0 o x1 μ _ _ hw1) (gk_X6_typeNumbered wt_2_121) hd_X6_typeNumbered (rmL_fit (k1 := 1) (k := 76) (by omega) (by decide)) hm19 rfl rfl rfl (Nat.le_of_ble_eq_true rfl) dX6_placeOfFault_2 rfl ⟨Nat.le_of_ble_eq_true rfl, Nat.le_of_ble_eq_true rfl⟩ rfl rfl (Nat.le_of_ble_eq_true rfl) (Nat.le_of_ble_eq_true rfl) (fun r1 μ2 hw2 => ?_)
  refine j_astore_n X (pc' := 6) (kk := 3) (i := 3) (loc' := [(3, .ref r1), (0, .ref o), (1, .int x1), (2, .int x2)]) dX6_placeOfFault_5 rfl rfl (by decide) rfl ?_
  refine j_iload_n X (pc' := 7) (kk := 2) (i := 2) 3 rfl rfl dX6_placeOfFault_6 rfl ?_
  refine j_iconst X (pc' := 8) (v := 0) (by decide) dX6_placeOfFault_7 rfl ?_
  refine j_iconst X (pc' := 9) (v := 3) (by decide) dX6_placeOfFault_8 rfl ?_
  refine j_callSp (As := [.int x2, .int (0 : Int32), .int (3 : Int32)]) (rest := []) X (pc' := 12) (cells' := 1) (slots' := 6) (c_X6_isOutside l G A μ2 x2 (0 : Int32) (3 : Int32) _ hw2) (gk_X6_isOutside wt_1_153) hd_X6_isOutside (rmL_fit (k1 := 0) (k := 76) (by omega) (by decide)) rfl rfl (Nat.le_of_ble_eq_true rfl) dX6_placeOfFault_9 rfl ⟨Nat.le_of_ble_eq_true rfl, Nat.le_of_ble_eq_true rfl⟩ rfl rfl (fun r3 hw3 => ?_)
  refine j_if_eq X (pc' := 15) (tgt := 25) dX6_placeOfFault_12 rfl (by decide) (fun c4 => ?_) (fun c4 => ?_)
  · have hw4 := hw3.1 c4
    refine j_aload_n X (pc' := 26) (kk := 0) (i := 0) 1 rfl rfl dX6_placeOfFault_25 rfl ?_
    obtain ⟨f5, g6, hm7, hv8, hw5⟩ := hw4
    refine j_getf X (pc' := 29) hm7 4 hv8 rfl fw_TX6 (by decide) wt_1_102 dX6_placeOfFault_26 rfl ?_
    refine j_aload_n X (pc' := 30) (kk := 3) (i := 3) 0 rfl rfl dX6_placeOfFault_29 rfl ?_
    refine j_aload_n X (pc' := 31) (kk := 0) (i := 0) 1 rfl rfl dX6_placeOfFault_30 rfl ?_
    obtain ⟨f9, g10, hm11, hv12, hw6⟩ := hw5
    refine j_getf X (pc' := 34) hm11 2 hv12 rfl fw_TX6 (by decide) wt_1_100 dX6_placeOfFault_31 rfl ?_
    refine j_iload_n X (pc' := 35) (kk := 2) (i := 2) 3 rfl rfl dX6_placeOfFault_34 rfl ?_
    obtain ⟨⟨f16, hm15⟩, hw7⟩ := hw6
    refine j_callVi (As := [.ref r1, .ref g10, .int x2]) (rest := []) X (pc' := 38) (cells' := 1) (slots' := 6) (c_X1_walk l G A kd hkd g6 r1 g10 x2 μ2 _ hw7) (gk_X1_walk wt_3_93) hd_X1_walk (rmL_fit (k1 := 75) (k := 76) (by omega) (by decide)) hm15 rfl rfl rfl (Nat.le_of_ble_eq_true rfl) dX6_placeOfFault_35 rfl ⟨Nat.le_of_ble_eq_true rfl, Nat.le_of_ble_eq_true rfl⟩ rfl rfl (fun r13 μ14 hw8 => ?_)
    exact j_x (j_iret X ⟨_, rfl, hw8⟩ (Nat.le_of_ble_eq_true rfl) (Nat.le_of_ble_eq_true rfl) dX6_placeOfFault_38)
  · have hw9 := hw3.2 c4
    exact jx_throw X hout hl0 (List.mem_of_getElem? (i := 0) rfl) (List.mem_of_getElem? (i := 16) rfl) wt_1_156 wt_1_10 xg_0 xn_0 (by decide +kernel) xk_0 dX6_placeOfFault_15 dX6_placeOfFault_18 dX6_placeOfFault_19 dX6_placeOfFault_21 dX6_placeOfFault_24 (Nat.le_of_ble_eq_true rfl) (Nat.le_of_ble_eq_true rfl) (Nat.le_of_ble_eq_true rfl) (Nat.le_of_ble_eq_true rfl) (Nat.le_of_ble_eq_true rfl) (Nat.le_of_ble_eq_true rfl) hw9
/-! BitNotation.read(II)I -/
theorem dX6_read_0 : decode cX6_read 0 = .ok (.aload_n 0, 1) := by decide +kernel
theorem dX6_read_1 : decode cX6_read 1 = .ok (.iload_n 1, 1) := by decide +kernel
theorem dX6_read_2 : decode cX6_read 2 = .ok (.iload_n 2, 1) := by decide +kernel
theorem dX6_read_3 : decode cX6_read 3 = .ok (.invokevirtual 179, 3) := by decide +kernel
theorem dX6_read_6 : decode cX6_read 6 = .ok (.iconst (-1), 1) := by decide +kernel
theorem dX6_read_7 : decode cX6_read 7 = .ok (.if_icmp .eq 13, 3) := by decide +kernel
theorem dX6_read_10 : decode cX6_read 10 = .ok (.new 92, 3) := by decide +kernel
theorem dX6_read_13 : decode cX6_read 13 = .ok (.dup, 1) := by decide +kernel
theorem dX6_read_14 : decode cX6_read 14 = .ok (.ldc 183, 2) := by decide +kernel
theorem dX6_read_16 : decode cX6_read 16 = .ok (.invokespecial 96, 3) := by decide +kernel
theorem dX6_read_19 : decode cX6_read 19 = .ok (.athrow, 1) := by decide +kernel
theorem dX6_read_20 : decode cX6_read 20 = .ok (.aload_n 0, 1) := by decide +kernel
theorem dX6_read_21 : decode cX6_read 21 = .ok (.getfield 21, 3) := by decide +kernel
theorem dX6_read_24 : decode cX6_read 24 = .ok (.aload_n 0, 1) := by decide +kernel
theorem dX6_read_25 : decode cX6_read 25 = .ok (.getfield 38, 3) := by decide +kernel
theorem dX6_read_28 : decode cX6_read 28 = .ok (.getfield 185, 3) := by decide +kernel
theorem dX6_read_31 : decode cX6_read 31 = .ok (.invokevirtual 167, 3) := by decide +kernel
theorem dX6_read_34 : decode cX6_read 34 = .ok (.aload_n 0, 1) := by decide +kernel
theorem dX6_read_35 : decode cX6_read 35 = .ok (.getfield 21, 3) := by decide +kernel
theorem dX6_read_38 : decode cX6_read 38 = .ok (.invokevirtual 141, 3) := by decide +kernel
theorem dX6_read_41 : decode cX6_read 41 = .ok (.ireturn, 1) := by decide +kernel
def wp_X6_read (o : Nat) (kd : Nat → Nat) (x1 : Int32) (x2 : Int32) (μ : Mm) (post : Int32 → Mm → Prop) (px : String → Mm → Prop) : Prop := (∃ f29, μ o = some (.inl (5, f29))) ∧ wp_X6_placeOfFault o kd x1 x2 μ (fun r1 μ2 => (r1 = (-1 : Int32) → (∃ f4 g5, μ2 o = some (.inl (5, f4)) ∧ f4[1]? = some (.ref g5) ∧ ∃ f8 g9, μ2 o = some (.inl (5, f8)) ∧ f8[4]? = some (.ref g9) ∧ ∃ f12 g13, μ2 g9 = some (.inl (0, f12)) ∧ f12[0]? = some (.ref g13) ∧ (∃ f27, μ2 g5 = some (.inl (1, f27))) ∧ wp_X2_becomeCopyOf g5 g13 μ2 (fun μ17 => ∃ f18 g19, μ17 o = some (.inl (5, f18)) ∧ f18[1]? = some (.ref g19) ∧ (∃ f25, μ17 g19 = some (.inl (1, f25))) ∧ wp_X2_size g19 μ17 (fun r22 μ23 => post r22 μ23)))) ∧ (¬ r1 = (-1 : Int32) → (px "java/lang/IllegalStateException" μ2))) px
set_option maxHeartbeats 4000000 in
set_option maxRecDepth 100000 in
theorem c_X6_read (l : Launch) (G : gG) (A : Nat → Prop) (hl0 : l.stackTraces = false) (kd : Nat → Nat) (hkd : G.2.2 = kd) (o : Nat) (x1 : Int32) (x2 : Int32) (μ : Mm) (post : Int32 → Mm → Prop) (px : String → Mm → Prop) (h : wp_X6_read o kd x1 x2 μ post px) : vx_Met l yX6_read (.code yX6_read cX6_read 3 (some .int) :: wsA) (rmL (77) 3 18) (PcG G A μ [.ref o, .int x1, .int x2]) (QG G A (pI post)) (XG G A px) 3 18 A := by
  refine metx_J (loc := [(0, .ref o), (1, .int x1), (2, .int x2)]) (by decide +kernel) (Nat.le_of_ble_eq_true rfl) rfl ?_
  intro p e s m args below meth c X hout
  have X : Cx p l s m args meth c cX6_read 3 (some .int) RX6 G A := X
  have hw := h
  unfold wp_X6_read at hw
  refine j_aload_n X (pc' := 1) (kk := 0) (i := 0) 0 rfl rfl dX6_read_0 rfl ?_
  refine j_iload_n X (pc' := 2) (kk := 1) (i := 1) 1 rfl rfl dX6_read_1 rfl ?_
  refine j_iload_n X (pc' := 3) (kk := 2) (i := 2) 2 rfl rfl dX6_read_2 rfl ?_
  obtain ⟨⟨f29, hm28⟩, hw1⟩ := hw
  refine jx_callVi (As := [.int x1, .int x2]) (rest := []) X (pc' := 6) (cells' := 2) (slots' := 12) hout (c_X6_placeOfFault l G A hl0 kd hkd o x1 x2 μ _ _ hw1) (gk_X6_placeOfFault wt_3_88) hd_X6_placeOfFault (rmL_fit (k1 := 76) (k := 77) (by omega) (by decide)) hm28 rfl rfl rfl (Nat.le_of_ble_eq_true rfl) dX6_read_3 rfl ⟨Nat.le_of_ble_eq_true rfl, Nat.le_of_ble_eq_true rfl⟩ rfl rfl (Nat.le_of_ble_eq_true rfl) (Nat.le_of_ble_eq_true rfl) (fun r1 μ2 hw2 => ?_)
  refine j_iconst X (pc' := 7) (v := (-1)) (by decide) dX6_read_6 rfl ?_
  refine j_icmp_eq X (pc' := 10) (tgt := 20) dX6_read_7 rfl (by decide) (fun c3 => ?_) (fun c3 => ?_)
  · have hw3 := hw2.1 c3
    refine j_aload_n X (pc' := 21) (kk := 0) (i := 0) 0 rfl rfl dX6_read_20 rfl ?_
    obtain ⟨f4, g5, hm6, hv7, hw4⟩ := hw3
    refine j_getf X (pc' := 24) hm6 1 hv7 rfl fw_TX6 (by decide) wt_1_99 dX6_read_21 rfl ?_
    refine j_aload_n X (pc' := 25) (kk := 0) (i := 0) 0 rfl rfl dX6_read_24 rfl ?_
    obtain ⟨f8, g9, hm10, hv11, hw5⟩ := hw4
    refine j_getf X (pc' := 28) hm10 4 hv11 rfl fw_TX6 (by decide) wt_1_102 dX6_read_25 rfl ?_
    obtain ⟨f12, g13, hm14, hv15, hw6⟩ := hw5
    refine j_getfN X (pc' := 31) hm14 0 hv15 rfl fw_TX1 (by decide) (List.mem_of_getElem? (i := 1) rfl) dX6_read_28 rfl ?_
    obtain ⟨⟨f27, hm26⟩, hw7⟩ := hw6
    refine j_callVv (As := [.ref g13]) (rest := []) X (pc' := 34) (cells' := 2) (slots' := 12) (c_X2_becomeCopyOf l G A g5 g13 μ2 _ hw7) (gk_X2_becomeCopyOf wt_3_48) hd_X2_becomeCopyOf (rmL_fit (k1 := 1) (k := 77) (by omega) (by decide)) hm26 rfl rfl rfl (Nat.le_of_ble_eq_true rfl) dX6_read_31 rfl ⟨Nat.le_of_ble_eq_true rfl, Nat.le_of_ble_eq_true rfl⟩ rfl rfl (fun μ17 hw8 => ?_)
    refine j_aload_n X (pc' := 35) (kk := 0) (i := 0) 0 rfl rfl dX6_read_34 rfl ?_
    obtain ⟨f18, g19, hm20, hv21, hw9⟩ := hw8
    refine j_getf X (pc' := 38) hm20 1 hv21 rfl fw_TX6 (by decide) wt_1_99 dX6_read_35 rfl ?_
    obtain ⟨⟨f25, hm24⟩, hw10⟩ := hw9
    refine j_callVi (As := []) (rest := []) X (pc' := 41) (cells' := 2) (slots' := 12) (c_X2_size l G A g19 μ17 _ hw10) (gk_X2_size wt_1_140) hd_X2_size (rmL_fit (k1 := 0) (k := 77) (by omega) (by decide)) hm24 rfl rfl rfl (Nat.le_of_ble_eq_true rfl) dX6_read_38 rfl ⟨Nat.le_of_ble_eq_true rfl, Nat.le_of_ble_eq_true rfl⟩ rfl rfl (fun r22 μ23 hw11 => ?_)
    exact j_x (j_iret X ⟨_, rfl, hw11⟩ (Nat.le_of_ble_eq_true rfl) (Nat.le_of_ble_eq_true rfl) dX6_read_41)
  · have hw12 := hw2.2 c3
    exact jx_throw X hout hl0 (List.mem_of_getElem? (i := 1) rfl) (List.mem_of_getElem? (i := 12) rfl) wt_2_91 wt_1_14 xg_1 xn_1 (by decide +kernel) xk_1 dX6_read_10 dX6_read_13 dX6_read_14 dX6_read_16 dX6_read_19 (Nat.le_of_ble_eq_true rfl) (Nat.le_of_ble_eq_true rfl) (Nat.le_of_ble_eq_true rfl) (Nat.le_of_ble_eq_true rfl) (Nat.le_of_ble_eq_true rfl) (Nat.le_of_ble_eq_true rfl) hw12
/-! BitNotation.faultAt(II)I -/
theorem dX6_faultAt_0 : decode cX6_faultAt 0 = .ok (.aload_n 0, 1) := by decide +kernel
theorem dX6_faultAt_1 : decode cX6_faultAt 1 = .ok (.iload_n 1, 1) := by decide +kernel
theorem dX6_faultAt_2 : decode cX6_faultAt 2 = .ok (.iload_n 2, 1) := by decide +kernel
theorem dX6_faultAt_3 : decode cX6_faultAt 3 = .ok (.invokevirtual 179, 3) := by decide +kernel
theorem dX6_faultAt_6 : decode cX6_faultAt 6 = .ok (.ireturn, 1) := by decide +kernel
def wp_X6_faultAt (o : Nat) (kd : Nat → Nat) (x1 : Int32) (x2 : Int32) (μ : Mm) (post : Int32 → Mm → Prop) (px : String → Mm → Prop) : Prop := (∃ f4, μ o = some (.inl (5, f4))) ∧ wp_X6_placeOfFault o kd x1 x2 μ (fun r1 μ2 => post r1 μ2) px
set_option maxHeartbeats 4000000 in
set_option maxRecDepth 100000 in
theorem c_X6_faultAt (l : Launch) (G : gG) (A : Nat → Prop) (hl0 : l.stackTraces = false) (kd : Nat → Nat) (hkd : G.2.2 = kd) (o : Nat) (x1 : Int32) (x2 : Int32) (μ : Mm) (post : Int32 → Mm → Prop) (px : String → Mm → Prop) (h : wp_X6_faultAt o kd x1 x2 μ post px) : vx_Met l yX6_faultAt (.code yX6_faultAt cX6_faultAt 3 (some .int) :: wsA) (rmL (77) 2 12) (PcG G A μ [.ref o, .int x1, .int x2]) (QG G A (pI post)) (XG G A px) 2 12 A := by
  refine metx_J (loc := [(0, .ref o), (1, .int x1), (2, .int x2)]) (by decide +kernel) (Nat.le_of_ble_eq_true rfl) rfl ?_
  intro p e s m args below meth c X hout
  have X : Cx p l s m args meth c cX6_faultAt 3 (some .int) RX6 G A := X
  have hw := h
  unfold wp_X6_faultAt at hw
  refine j_aload_n X (pc' := 1) (kk := 0) (i := 0) 0 rfl rfl dX6_faultAt_0 rfl ?_
  refine j_iload_n X (pc' := 2) (kk := 1) (i := 1) 1 rfl rfl dX6_faultAt_1 rfl ?_
  refine j_iload_n X (pc' := 3) (kk := 2) (i := 2) 2 rfl rfl dX6_faultAt_2 rfl ?_
  obtain ⟨⟨f4, hm3⟩, hw1⟩ := hw
  refine jx_callVi (As := [.int x1, .int x2]) (rest := []) X (pc' := 6) (cells' := 2) (slots' := 12) hout (c_X6_placeOfFault l G A hl0 kd hkd o x1 x2 μ _ _ hw1) (gk_X6_placeOfFault wt_3_88) hd_X6_placeOfFault (rmL_fit (k1 := 76) (k := 77) (by omega) (by decide)) hm3 rfl rfl rfl (Nat.le_of_ble_eq_true rfl) dX6_faultAt_3 rfl ⟨Nat.le_of_ble_eq_true rfl, Nat.le_of_ble_eq_true rfl⟩ rfl rfl (Nat.le_of_ble_eq_true rfl) (Nat.le_of_ble_eq_true rfl) (fun r1 μ2 hw2 => ?_)
  exact j_x (j_iret X ⟨_, rfl, hw2⟩ (Nat.le_of_ble_eq_true rfl) (Nat.le_of_ble_eq_true rfl) dX6_faultAt_6)
